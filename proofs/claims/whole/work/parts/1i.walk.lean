theorem dX12_saves_0 : decode cX12_saves 0 = .ok (.iconst 0, 1) := by decide +kernel
theorem dX12_saves_1 : decode cX12_saves 1 = .ok (.istore_n 1, 1) := by decide +kernel
theorem dX12_saves_2 : decode cX12_saves 2 = .ok (.iload_n 1, 1) := by decide +kernel
theorem dX12_saves_3 : decode cX12_saves 3 = .ok (.sipush 810, 3) := by decide +kernel
theorem dX12_saves_6 : decode cX12_saves 6 = .ok (.if_icmp .ge 21, 3) := by decide +kernel
theorem dX12_saves_9 : decode cX12_saves 9 = .ok (.aload_n 0, 1) := by decide +kernel
theorem dX12_saves_10 : decode cX12_saves 10 = .ok (.getfield 17, 3) := by decide +kernel
theorem dX12_saves_13 : decode cX12_saves 13 = .ok (.iload_n 1, 1) := by decide +kernel
theorem dX12_saves_14 : decode cX12_saves 14 = .ok (.aload_n 0, 1) := by decide +kernel
theorem dX12_saves_15 : decode cX12_saves 15 = .ok (.getfield 13, 3) := by decide +kernel
theorem dX12_saves_18 : decode cX12_saves 18 = .ok (.iload_n 1, 1) := by decide +kernel
theorem dX12_saves_19 : decode cX12_saves 19 = .ok (.iaload, 1) := by decide +kernel
theorem dX12_saves_20 : decode cX12_saves 20 = .ok (.iastore, 1) := by decide +kernel
theorem dX12_saves_21 : decode cX12_saves 21 = .ok (.iinc 1 1, 3) := by decide +kernel
theorem dX12_saves_24 : decode cX12_saves 24 = .ok (.goto (-22), 3) := by decide +kernel
theorem dX12_saves_27 : decode cX12_saves 27 = .ok (.return_, 1) := by decide +kernel
theorem j_X12_saves_L2 {l : Launch} {Γ : Am}   : ∀ (f : Nat), ∀ (r0 : Nat) (v1 : Int32) (z : Hp), J l Γ mi_X12_saves cvV 0 0 2 [(0, .ref (mB Γ + r0)), (1, .int v1)] [] z (m_X12_saves_L2  f r0 v1 z) := by
  intro f
  induction f with
  | zero => intro r0 v1 z; exact J.none
  | succ f hL2 =>
    intro r0 v1 z
    rw [m_X12_saves_L2]
    refine j_iload_n (pc := 2) 1 dX12_saves_2 rfl rfl ?_
    refine j_sipush (pc := 3) (v := 810) dX12_saves_3 (by decide) ?_
    refine j_icmp_ge (pc := 6) 27 dX12_saves_6 (by decide) ?_ ?_
    · exact j_return (pc := 27) dX12_saves_27 rfl
    refine j_aload_n (pc := 9) 0 dX12_saves_9 rfl rfl ?_
    refine j_getR (pc := 10) ok_X12 (by decide) rfl w_1240 dX12_saves_10 (fun a1 => ?_)
    refine j_iload_n (pc := 13) 1 dX12_saves_13 rfl rfl ?_
    refine j_aload_n (pc := 14) 0 dX12_saves_14 rfl rfl ?_
    refine j_getR (pc := 15) ok_X12 (by decide) rfl w_1239 dX12_saves_15 (fun a2 => ?_)
    refine j_iload_n (pc := 18) 1 dX12_saves_18 rfl rfl ?_
    refine j_iaload (pc := 19) dX12_saves_19 (fun x3 => ?_)
    refine j_iastore (pc := 20) dX12_saves_20 (fun z4 => ?_)
    refine j_iinc (pc := 21) (n0 := 1) (v0 := v1 + 1) (lv2 := [(1, .int (v1 + 1)), (0, .ref (mB Γ + r0))]) dX12_saves_21 rfl rfl (by decide) rfl ?_
    refine j_goto (pc := 24) 2 dX12_saves_24 (by decide) ?_
    exact J.sub [1, 0] rfl (hL2 r0 (v1 + 1) z4)
theorem ct_X12_saves {l : Launch} {Γ : Am} (r0 : Nat) (z : Hp) : Ct l Γ yX12_saves mi_X12_saves cvV [.ref (mB Γ + r0)] z (m_X12_saves r0 z) := by
  refine Ct.ofJ (by decide) ⟨rfl, rfl⟩ (Nat.le_of_ble_eq_true rfl) ?_
  unfold m_X12_saves
  show J l Γ mi_X12_saves cvV 0 0 0 [(0, .ref (mB Γ + r0))] [] z _
  refine j_iconst (pc := 0) (v := 0) dX12_saves_0 (by decide) ?_
  refine j_istore_n (pc := 1) (lv2 := [(1, .int 0), (0, .ref (mB Γ + r0))]) dX12_saves_1 rfl (by decide) rfl ?_
  exact J.sub [1, 0] rfl ((j_X12_saves_L2 FU) r0 0 z)
theorem dX12_putsBack_0 : decode cX12_putsBack 0 = .ok (.iconst 0, 1) := by decide +kernel
theorem dX12_putsBack_1 : decode cX12_putsBack 1 = .ok (.istore_n 1, 1) := by decide +kernel
theorem dX12_putsBack_2 : decode cX12_putsBack 2 = .ok (.iload_n 1, 1) := by decide +kernel
theorem dX12_putsBack_3 : decode cX12_putsBack 3 = .ok (.sipush 810, 3) := by decide +kernel
theorem dX12_putsBack_6 : decode cX12_putsBack 6 = .ok (.if_icmp .ge 21, 3) := by decide +kernel
theorem dX12_putsBack_9 : decode cX12_putsBack 9 = .ok (.aload_n 0, 1) := by decide +kernel
theorem dX12_putsBack_10 : decode cX12_putsBack 10 = .ok (.getfield 13, 3) := by decide +kernel
theorem dX12_putsBack_13 : decode cX12_putsBack 13 = .ok (.iload_n 1, 1) := by decide +kernel
theorem dX12_putsBack_14 : decode cX12_putsBack 14 = .ok (.aload_n 0, 1) := by decide +kernel
theorem dX12_putsBack_15 : decode cX12_putsBack 15 = .ok (.getfield 17, 3) := by decide +kernel
theorem dX12_putsBack_18 : decode cX12_putsBack 18 = .ok (.iload_n 1, 1) := by decide +kernel
theorem dX12_putsBack_19 : decode cX12_putsBack 19 = .ok (.iaload, 1) := by decide +kernel
theorem dX12_putsBack_20 : decode cX12_putsBack 20 = .ok (.iastore, 1) := by decide +kernel
theorem dX12_putsBack_21 : decode cX12_putsBack 21 = .ok (.iinc 1 1, 3) := by decide +kernel
theorem dX12_putsBack_24 : decode cX12_putsBack 24 = .ok (.goto (-22), 3) := by decide +kernel
theorem dX12_putsBack_27 : decode cX12_putsBack 27 = .ok (.return_, 1) := by decide +kernel
theorem j_X12_putsBack_L2 {l : Launch} {Γ : Am}   : ∀ (f : Nat), ∀ (r0 : Nat) (v1 : Int32) (z : Hp), J l Γ mi_X12_putsBack cvV 0 0 2 [(0, .ref (mB Γ + r0)), (1, .int v1)] [] z (m_X12_putsBack_L2  f r0 v1 z) := by
  intro f
  induction f with
  | zero => intro r0 v1 z; exact J.none
  | succ f hL2 =>
    intro r0 v1 z
    rw [m_X12_putsBack_L2]
    refine j_iload_n (pc := 2) 1 dX12_putsBack_2 rfl rfl ?_
    refine j_sipush (pc := 3) (v := 810) dX12_putsBack_3 (by decide) ?_
    refine j_icmp_ge (pc := 6) 27 dX12_putsBack_6 (by decide) ?_ ?_
    · exact j_return (pc := 27) dX12_putsBack_27 rfl
    refine j_aload_n (pc := 9) 0 dX12_putsBack_9 rfl rfl ?_
    refine j_getR (pc := 10) ok_X12 (by decide) rfl w_1239 dX12_putsBack_10 (fun a1 => ?_)
    refine j_iload_n (pc := 13) 1 dX12_putsBack_13 rfl rfl ?_
    refine j_aload_n (pc := 14) 0 dX12_putsBack_14 rfl rfl ?_
    refine j_getR (pc := 15) ok_X12 (by decide) rfl w_1240 dX12_putsBack_15 (fun a2 => ?_)
    refine j_iload_n (pc := 18) 1 dX12_putsBack_18 rfl rfl ?_
    refine j_iaload (pc := 19) dX12_putsBack_19 (fun x3 => ?_)
    refine j_iastore (pc := 20) dX12_putsBack_20 (fun z4 => ?_)
    refine j_iinc (pc := 21) (n0 := 1) (v0 := v1 + 1) (lv2 := [(1, .int (v1 + 1)), (0, .ref (mB Γ + r0))]) dX12_putsBack_21 rfl rfl (by decide) rfl ?_
    refine j_goto (pc := 24) 2 dX12_putsBack_24 (by decide) ?_
    exact J.sub [1, 0] rfl (hL2 r0 (v1 + 1) z4)
theorem ct_X12_putsBack {l : Launch} {Γ : Am} (r0 : Nat) (z : Hp) : Ct l Γ yX12_putsBack mi_X12_putsBack cvV [.ref (mB Γ + r0)] z (m_X12_putsBack r0 z) := by
  refine Ct.ofJ (by decide) ⟨rfl, rfl⟩ (Nat.le_of_ble_eq_true rfl) ?_
  unfold m_X12_putsBack
  show J l Γ mi_X12_putsBack cvV 0 0 0 [(0, .ref (mB Γ + r0))] [] z _
  refine j_iconst (pc := 0) (v := 0) dX12_putsBack_0 (by decide) ?_
  refine j_istore_n (pc := 1) (lv2 := [(1, .int 0), (0, .ref (mB Γ + r0))]) dX12_putsBack_1 rfl (by decide) rfl ?_
  exact J.sub [1, 0] rfl ((j_X12_putsBack_L2 FU) r0 0 z)
theorem dX12_feed_0 : decode cX12_feed 0 = .ok (.aload_n 0, 1) := by decide +kernel
theorem dX12_feed_1 : decode cX12_feed 1 = .ok (.getfield 122, 3) := by decide +kernel
theorem dX12_feed_4 : decode cX12_feed 4 = .ok (.bipush 20, 2) := by decide +kernel
theorem dX12_feed_6 : decode cX12_feed 6 = .ok (.iadd, 1) := by decide +kernel
theorem dX12_feed_7 : decode cX12_feed 7 = .ok (.sipush 700, 3) := by decide +kernel
theorem dX12_feed_10 : decode cX12_feed 10 = .ok (.if_icmp .le 5, 3) := by decide +kernel
theorem dX12_feed_13 : decode cX12_feed 13 = .ok (.iconst (-1), 1) := by decide +kernel
theorem dX12_feed_14 : decode cX12_feed 14 = .ok (.ireturn, 1) := by decide +kernel
theorem dX12_feed_15 : decode cX12_feed 15 = .ok (.aload_n 0, 1) := by decide +kernel
theorem dX12_feed_16 : decode cX12_feed 16 = .ok (.getfield 31, 3) := by decide +kernel
theorem dX12_feed_19 : decode cX12_feed 19 = .ok (.iconst 0, 1) := by decide +kernel
theorem dX12_feed_20 : decode cX12_feed 20 = .ok (.iload_n 1, 1) := by decide +kernel
theorem dX12_feed_21 : decode cX12_feed 21 = .ok (.iastore, 1) := by decide +kernel
theorem dX12_feed_22 : decode cX12_feed 22 = .ok (.aload_n 0, 1) := by decide +kernel
theorem dX12_feed_23 : decode cX12_feed 23 = .ok (.getfield 31, 3) := by decide +kernel
theorem dX12_feed_26 : decode cX12_feed 26 = .ok (.iconst 1, 1) := by decide +kernel
theorem dX12_feed_27 : decode cX12_feed 27 = .ok (.iload_n 2, 1) := by decide +kernel
theorem dX12_feed_28 : decode cX12_feed 28 = .ok (.iastore, 1) := by decide +kernel
theorem dX12_feed_29 : decode cX12_feed 29 = .ok (.aload_n 0, 1) := by decide +kernel
theorem dX12_feed_30 : decode cX12_feed 30 = .ok (.getfield 31, 3) := by decide +kernel
theorem dX12_feed_33 : decode cX12_feed 33 = .ok (.iconst 2, 1) := by decide +kernel
theorem dX12_feed_34 : decode cX12_feed 34 = .ok (.iload_n 3, 1) := by decide +kernel
theorem dX12_feed_35 : decode cX12_feed 35 = .ok (.iastore, 1) := by decide +kernel
theorem dX12_feed_36 : decode cX12_feed 36 = .ok (.aload_n 0, 1) := by decide +kernel
theorem dX12_feed_37 : decode cX12_feed 37 = .ok (.getfield 31, 3) := by decide +kernel
theorem dX12_feed_40 : decode cX12_feed 40 = .ok (.iconst 3, 1) := by decide +kernel
theorem dX12_feed_41 : decode cX12_feed 41 = .ok (.iload 4, 2) := by decide +kernel
theorem dX12_feed_43 : decode cX12_feed 43 = .ok (.iastore, 1) := by decide +kernel
theorem dX12_feed_44 : decode cX12_feed 44 = .ok (.aload_n 0, 1) := by decide +kernel
theorem dX12_feed_45 : decode cX12_feed 45 = .ok (.getfield 31, 3) := by decide +kernel
theorem dX12_feed_48 : decode cX12_feed 48 = .ok (.iconst 4, 1) := by decide +kernel
theorem dX12_feed_49 : decode cX12_feed 49 = .ok (.iload 5, 2) := by decide +kernel
theorem dX12_feed_51 : decode cX12_feed 51 = .ok (.iastore, 1) := by decide +kernel
theorem dX12_feed_52 : decode cX12_feed 52 = .ok (.iconst 0, 1) := by decide +kernel
theorem dX12_feed_53 : decode cX12_feed 53 = .ok (.istore 6, 2) := by decide +kernel
theorem dX12_feed_55 : decode cX12_feed 55 = .ok (.iload 6, 2) := by decide +kernel
theorem dX12_feed_57 : decode cX12_feed 57 = .ok (.bipush 20, 2) := by decide +kernel
theorem dX12_feed_59 : decode cX12_feed 59 = .ok (.if_icmp .ge 42, 3) := by decide +kernel
theorem dX12_feed_62 : decode cX12_feed 62 = .ok (.aload_n 0, 1) := by decide +kernel
theorem dX12_feed_63 : decode cX12_feed 63 = .ok (.getfield 27, 3) := by decide +kernel
theorem dX12_feed_66 : decode cX12_feed 66 = .ok (.aload_n 0, 1) := by decide +kernel
theorem dX12_feed_67 : decode cX12_feed 67 = .ok (.getfield 122, 3) := by decide +kernel
theorem dX12_feed_70 : decode cX12_feed 70 = .ok (.iload 6, 2) := by decide +kernel
theorem dX12_feed_72 : decode cX12_feed 72 = .ok (.iadd, 1) := by decide +kernel
theorem dX12_feed_73 : decode cX12_feed 73 = .ok (.aload_n 0, 1) := by decide +kernel
theorem dX12_feed_74 : decode cX12_feed 74 = .ok (.getfield 31, 3) := by decide +kernel
theorem dX12_feed_77 : decode cX12_feed 77 = .ok (.iload 6, 2) := by decide +kernel
theorem dX12_feed_79 : decode cX12_feed 79 = .ok (.iconst 4, 1) := by decide +kernel
theorem dX12_feed_80 : decode cX12_feed 80 = .ok (.idiv, 1) := by decide +kernel
theorem dX12_feed_81 : decode cX12_feed 81 = .ok (.iaload, 1) := by decide +kernel
theorem dX12_feed_82 : decode cX12_feed 82 = .ok (.bipush 24, 2) := by decide +kernel
theorem dX12_feed_84 : decode cX12_feed 84 = .ok (.bipush 8, 2) := by decide +kernel
theorem dX12_feed_86 : decode cX12_feed 86 = .ok (.iload 6, 2) := by decide +kernel
theorem dX12_feed_88 : decode cX12_feed 88 = .ok (.iconst 4, 1) := by decide +kernel
theorem dX12_feed_89 : decode cX12_feed 89 = .ok (.irem, 1) := by decide +kernel
theorem dX12_feed_90 : decode cX12_feed 90 = .ok (.imul, 1) := by decide +kernel
theorem dX12_feed_91 : decode cX12_feed 91 = .ok (.isub, 1) := by decide +kernel
theorem dX12_feed_92 : decode cX12_feed 92 = .ok (.ishr, 1) := by decide +kernel
theorem dX12_feed_93 : decode cX12_feed 93 = .ok (.i2b, 1) := by decide +kernel
theorem dX12_feed_94 : decode cX12_feed 94 = .ok (.bastore, 1) := by decide +kernel
theorem dX12_feed_95 : decode cX12_feed 95 = .ok (.iinc 6 1, 3) := by decide +kernel
theorem dX12_feed_98 : decode cX12_feed 98 = .ok (.goto (-43), 3) := by decide +kernel
theorem dX12_feed_101 : decode cX12_feed 101 = .ok (.aload_n 0, 1) := by decide +kernel
theorem dX12_feed_102 : decode cX12_feed 102 = .ok (.dup, 1) := by decide +kernel
theorem dX12_feed_103 : decode cX12_feed 103 = .ok (.getfield 122, 3) := by decide +kernel
theorem dX12_feed_106 : decode cX12_feed 106 = .ok (.bipush 20, 2) := by decide +kernel
theorem dX12_feed_108 : decode cX12_feed 108 = .ok (.iadd, 1) := by decide +kernel
theorem dX12_feed_109 : decode cX12_feed 109 = .ok (.putfield 122, 3) := by decide +kernel
theorem dX12_feed_112 : decode cX12_feed 112 = .ok (.aload_n 0, 1) := by decide +kernel
theorem dX12_feed_113 : decode cX12_feed 113 = .ok (.getfield 122, 3) := by decide +kernel
theorem dX12_feed_116 : decode cX12_feed 116 = .ok (.ireturn, 1) := by decide +kernel
theorem j_X12_feed_B101 {l : Launch} {Γ : Am}   : ∀ (r0 : Nat) (z : Hp), J l Γ mi_X12_feed cvI 0 0 101 [(0, .ref (mB Γ + r0))] [] z (m_X12_feed_B101  r0 z) := by
  intro r0 z
  unfold m_X12_feed_B101
  refine j_aload_n (pc := 101) 0 dX12_feed_101 rfl rfl ?_
  refine j_dup (pc := 102) dX12_feed_102 rfl ?_
  refine j_getI (pc := 103) ok_X12 (by decide) rfl w_1244 dX12_feed_103 (fun x1 => ?_)
  refine j_bipush (pc := 106) (v := 20) dX12_feed_106 (by decide) ?_
  refine j_iadd (pc := 108) dX12_feed_108 ?_
  refine j_putI (pc := 109) ok_X12 (by decide) rfl w_1244 (Or.inl rfl) rfl rfl dX12_feed_109 (fun z2 => ?_)
  refine j_aload_n (pc := 112) 0 dX12_feed_112 rfl rfl ?_
  refine j_getI (pc := 113) ok_X12 (by decide) rfl w_1244 dX12_feed_113 (fun x3 => ?_)
  exact j_ireturn (pc := 116) dX12_feed_116 rfl rfl
theorem j_X12_feed_L55 {l : Launch} {Γ : Am} {k101 : Nat → Hp → Option (Int32 × Hp)} (hL101 : ∀ (r0 : Nat) (z : Hp), J l Γ mi_X12_feed cvI 0 0 101 [(0, .ref (mB Γ + r0))] [] z (k101 r0 z)) : ∀ (f : Nat), ∀ (r0 : Nat) (v6 : Int32) (z : Hp), J l Γ mi_X12_feed cvI 0 0 55 [(0, .ref (mB Γ + r0)), (6, .int v6)] [] z (m_X12_feed_L55 k101 f r0 v6 z) := by
  intro f
  induction f with
  | zero => intro r0 v6 z; exact J.none
  | succ f hL55 =>
    intro r0 v6 z
    rw [m_X12_feed_L55]
    refine j_iload (pc := 55) 1 dX12_feed_55 rfl ?_
    refine j_bipush (pc := 57) (v := 20) dX12_feed_57 (by decide) ?_
    refine j_icmp_ge (pc := 59) 101 dX12_feed_59 (by decide) ?_ ?_
    · exact J.sub [0] rfl (hL101 r0 z)
    refine j_aload_n (pc := 62) 0 dX12_feed_62 rfl rfl ?_
    refine j_getR (pc := 63) ok_X12 (by decide) rfl w_1243 dX12_feed_63 (fun a4 => ?_)
    refine j_aload_n (pc := 66) 0 dX12_feed_66 rfl rfl ?_
    refine j_getI (pc := 67) ok_X12 (by decide) rfl w_1244 dX12_feed_67 (fun x5 => ?_)
    refine j_iload (pc := 70) 1 dX12_feed_70 rfl ?_
    refine j_iadd (pc := 72) dX12_feed_72 ?_
    refine j_aload_n (pc := 73) 0 dX12_feed_73 rfl rfl ?_
    refine j_getR (pc := 74) ok_X12 (by decide) rfl w_1245 dX12_feed_74 (fun a6 => ?_)
    refine j_iload (pc := 77) 1 dX12_feed_77 rfl ?_
    refine j_iconst (pc := 79) (v := 4) dX12_feed_79 (by decide) ?_
    refine j_idiv (pc := 80) dX12_feed_80 (by decide) ?_
    refine j_iaload (pc := 81) dX12_feed_81 (fun x7 => ?_)
    refine j_bipush (pc := 82) (v := 24) dX12_feed_82 (by decide) ?_
    refine j_bipush (pc := 84) (v := 8) dX12_feed_84 (by decide) ?_
    refine j_iload (pc := 86) 1 dX12_feed_86 rfl ?_
    refine j_iconst (pc := 88) (v := 4) dX12_feed_88 (by decide) ?_
    refine j_irem (pc := 89) dX12_feed_89 (by decide) ?_
    refine j_imul (pc := 90) dX12_feed_90 ?_
    refine j_isub (pc := 91) dX12_feed_91 ?_
    refine j_ishr (pc := 92) dX12_feed_92 ?_
    refine j_i2b (pc := 93) dX12_feed_93 ?_
    refine j_bastore (pc := 94) dX12_feed_94 (fun z8 => ?_)
    refine j_iinc (pc := 95) (n0 := 1) (v0 := v6 + 1) (lv2 := [(6, .int (v6 + 1)), (0, .ref (mB Γ + r0))]) dX12_feed_95 rfl rfl (by decide) rfl ?_
    refine j_goto (pc := 98) 55 dX12_feed_98 (by decide) ?_
    exact J.sub [1, 0] rfl (hL55 r0 (v6 + 1) z8)
theorem ct_X12_feed {l : Launch} {Γ : Am} (r0 : Nat) (v1 : Int32) (v2 : Int32) (v3 : Int32) (v4 : Int32) (v5 : Int32) (z : Hp) : Ct l Γ yX12_feed mi_X12_feed cvI [.ref (mB Γ + r0), .int v1, .int v2, .int v3, .int v4, .int v5] z (m_X12_feed r0 v1 v2 v3 v4 v5 z) := by
  refine Ct.ofJ (by decide) ⟨rfl, rfl⟩ (Nat.le_of_ble_eq_true rfl) ?_
  unfold m_X12_feed
  show J l Γ mi_X12_feed cvI 0 0 0 [(0, .ref (mB Γ + r0)), (1, .int v1), (2, .int v2), (3, .int v3), (4, .int v4), (5, .int v5)] [] z _
  refine j_aload_n (pc := 0) 0 dX12_feed_0 rfl rfl ?_
  refine j_getI (pc := 1) ok_X12 (by decide) rfl w_1244 dX12_feed_1 (fun x9 => ?_)
  refine j_bipush (pc := 4) (v := 20) dX12_feed_4 (by decide) ?_
  refine j_iadd (pc := 6) dX12_feed_6 ?_
  refine j_sipush (pc := 7) (v := 700) dX12_feed_7 (by decide) ?_
  refine j_icmp_le (pc := 10) 15 dX12_feed_10 (by decide) ?_ ?_
  · refine j_aload_n (pc := 15) 0 dX12_feed_15 rfl rfl ?_
    refine j_getR (pc := 16) ok_X12 (by decide) rfl w_1245 dX12_feed_16 (fun a10 => ?_)
    refine j_iconst (pc := 19) (v := 0) dX12_feed_19 (by decide) ?_
    refine j_iload_n (pc := 20) 1 dX12_feed_20 rfl rfl ?_
    refine j_iastore (pc := 21) dX12_feed_21 (fun z11 => ?_)
    refine j_aload_n (pc := 22) 0 dX12_feed_22 rfl rfl ?_
    refine j_getR (pc := 23) ok_X12 (by decide) rfl w_1245 dX12_feed_23 (fun a12 => ?_)
    refine j_iconst (pc := 26) (v := 1) dX12_feed_26 (by decide) ?_
    refine j_iload_n (pc := 27) 2 dX12_feed_27 rfl rfl ?_
    refine j_iastore (pc := 28) dX12_feed_28 (fun z13 => ?_)
    refine j_aload_n (pc := 29) 0 dX12_feed_29 rfl rfl ?_
    refine j_getR (pc := 30) ok_X12 (by decide) rfl w_1245 dX12_feed_30 (fun a14 => ?_)
    refine j_iconst (pc := 33) (v := 2) dX12_feed_33 (by decide) ?_
    refine j_iload_n (pc := 34) 3 dX12_feed_34 rfl rfl ?_
    refine j_iastore (pc := 35) dX12_feed_35 (fun z15 => ?_)
    refine j_aload_n (pc := 36) 0 dX12_feed_36 rfl rfl ?_
    refine j_getR (pc := 37) ok_X12 (by decide) rfl w_1245 dX12_feed_37 (fun a16 => ?_)
    refine j_iconst (pc := 40) (v := 3) dX12_feed_40 (by decide) ?_
    refine j_iload (pc := 41) 4 dX12_feed_41 rfl ?_
    refine j_iastore (pc := 43) dX12_feed_43 (fun z17 => ?_)
    refine j_aload_n (pc := 44) 0 dX12_feed_44 rfl rfl ?_
    refine j_getR (pc := 45) ok_X12 (by decide) rfl w_1245 dX12_feed_45 (fun a18 => ?_)
    refine j_iconst (pc := 48) (v := 4) dX12_feed_48 (by decide) ?_
    refine j_iload (pc := 49) 5 dX12_feed_49 rfl ?_
    refine j_iastore (pc := 51) dX12_feed_51 (fun z19 => ?_)
    refine j_iconst (pc := 52) (v := 0) dX12_feed_52 (by decide) ?_
    refine j_istore (pc := 53) (lv2 := [(6, .int 0), (0, .ref (mB Γ + r0)), (1, .int v1), (2, .int v2), (3, .int v3), (4, .int v4), (5, .int v5)]) dX12_feed_53 (by decide) rfl ?_
    exact J.sub [1, 0] rfl ((j_X12_feed_L55 j_X12_feed_B101 FU) r0 0 z19)
  refine j_iconst (pc := 13) (v := (-1)) dX12_feed_13 (by decide) ?_
  exact j_ireturn (pc := 14) dX12_feed_14 rfl rfl
theorem dX12_end_0 : decode cX12_end 0 = .ok (.iload_n 1, 1) := by decide +kernel
theorem dX12_end_1 : decode cX12_end 1 = .ok (.i2l, 1) := by decide +kernel
theorem dX12_end_2 : decode cX12_end 2 = .ok (.lconst 0, 1) := by decide +kernel
theorem dX12_end_3 : decode cX12_end 3 = .ok (.aload_n 0, 1) := by decide +kernel
theorem dX12_end_4 : decode cX12_end 4 = .ok (.getfield 122, 3) := by decide +kernel
theorem dX12_end_7 : decode cX12_end 7 = .ok (.i2l, 1) := by decide +kernel
theorem dX12_end_8 : decode cX12_end 8 = .ok (.invokestatic 110, 3) := by decide +kernel
theorem dX12_end_11 : decode cX12_end 11 = .ok (.ifCond .ne 5, 3) := by decide +kernel
theorem dX12_end_14 : decode cX12_end 14 = .ok (.iconst (-1), 1) := by decide +kernel
theorem dX12_end_15 : decode cX12_end 15 = .ok (.ireturn, 1) := by decide +kernel
theorem dX12_end_16 : decode cX12_end 16 = .ok (.aload_n 0, 1) := by decide +kernel
theorem dX12_end_17 : decode cX12_end 17 = .ok (.iload_n 1, 1) := by decide +kernel
theorem dX12_end_18 : decode cX12_end 18 = .ok (.putfield 122, 3) := by decide +kernel
theorem dX12_end_21 : decode cX12_end 21 = .ok (.iload_n 1, 1) := by decide +kernel
theorem dX12_end_22 : decode cX12_end 22 = .ok (.ireturn, 1) := by decide +kernel
theorem cw_X12_end_110 : CwS mi_X12_end mi_X12_in yX12_in 110 3 := ⟨⟨w_1365, w_1366, w_108, w_1367⟩, ⟨by decide, by decide⟩, by decide +kernel, by decide, by decide⟩
theorem ct_X12_end {l : Launch} {Γ : Am} (r0 : Nat) (v1 : Int32) (z : Hp) : Ct l Γ yX12_end mi_X12_end cvI [.ref (mB Γ + r0), .int v1] z (m_X12_end r0 v1 z) := by
  refine Ct.ofJ (by decide) ⟨rfl, rfl⟩ (Nat.le_of_ble_eq_true rfl) ?_
  unfold m_X12_end
  show J l Γ mi_X12_end cvI 0 0 0 [(0, .ref (mB Γ + r0)), (1, .int v1)] [] z _
  refine j_iload_n (pc := 0) 1 dX12_end_0 rfl rfl ?_
  refine j_i2l (pc := 1) dX12_end_1 ?_
  refine j_lconst (pc := 2) (v := 0) dX12_end_2 (by decide) ?_
  refine j_aload_n (pc := 3) 0 dX12_end_3 rfl rfl ?_
  refine j_getI (pc := 4) ok_X12 (by decide) rfl w_1244 dX12_end_4 (fun x1 => ?_)
  refine j_i2l (pc := 7) dX12_end_7 ?_
  refine j_callS_I (pc := 8) (as := [.long (Int32.toInt64 v1), .long 0, .long (Int32.toInt64 x1)]) (mc2 := 0) (ms2 := 0) (ct_X12_in _ _ _ _) cw_X12_end_110 dX12_end_8 (Nat.le_of_ble_eq_true rfl) rfl (by decide) (by decide) (fun x3 z2 => ?_)
  refine j_if_ne (pc := 11) 16 dX12_end_11 (by decide) ?_ ?_
  · refine j_aload_n (pc := 16) 0 dX12_end_16 rfl rfl ?_
    refine j_iload_n (pc := 17) 1 dX12_end_17 rfl rfl ?_
    refine j_putI (pc := 18) ok_X12 (by decide) rfl w_1244 (Or.inl rfl) rfl rfl dX12_end_18 (fun z4 => ?_)
    refine j_iload_n (pc := 21) 1 dX12_end_21 rfl rfl ?_
    exact j_ireturn (pc := 22) dX12_end_22 rfl rfl
  refine j_iconst (pc := 14) (v := (-1)) dX12_end_14 (by decide) ?_
  exact j_ireturn (pc := 15) dX12_end_15 rfl rfl
theorem dX12_see_0 : decode cX12_see 0 = .ok (.iload_n 1, 1) := by decide +kernel
theorem dX12_see_1 : decode cX12_see 1 = .ok (.aload_n 0, 1) := by decide +kernel
theorem dX12_see_2 : decode cX12_see 2 = .ok (.getfield 125, 3) := by decide +kernel
theorem dX12_see_5 : decode cX12_see 5 = .ok (.if_icmp .ge 16, 3) := by decide +kernel
theorem dX12_see_8 : decode cX12_see 8 = .ok (.aload_n 0, 1) := by decide +kernel
theorem dX12_see_9 : decode cX12_see 9 = .ok (.getfield 27, 3) := by decide +kernel
theorem dX12_see_12 : decode cX12_see 12 = .ok (.iload_n 1, 1) := by decide +kernel
theorem dX12_see_13 : decode cX12_see 13 = .ok (.baload, 1) := by decide +kernel
theorem dX12_see_14 : decode cX12_see 14 = .ok (.sipush 255, 3) := by decide +kernel
theorem dX12_see_17 : decode cX12_see 17 = .ok (.iand, 1) := by decide +kernel
theorem dX12_see_18 : decode cX12_see 18 = .ok (.goto 4, 3) := by decide +kernel
theorem dX12_see_21 : decode cX12_see 21 = .ok (.iconst (-1), 1) := by decide +kernel
theorem dX12_see_22 : decode cX12_see 22 = .ok (.ireturn, 1) := by decide +kernel
theorem ct_X12_see {l : Launch} {Γ : Am} (r0 : Nat) (v1 : Int32) (z : Hp) : Ct l Γ yX12_see mi_X12_see cvI [.ref (mB Γ + r0), .int v1] z (m_X12_see r0 v1 z) := by
  refine Ct.ofJ (by decide) ⟨rfl, rfl⟩ (Nat.le_of_ble_eq_true rfl) ?_
  unfold m_X12_see
  show J l Γ mi_X12_see cvI 0 0 0 [(0, .ref (mB Γ + r0)), (1, .int v1)] [] z _
  refine j_iload_n (pc := 0) 1 dX12_see_0 rfl rfl ?_
  refine j_aload_n (pc := 1) 0 dX12_see_1 rfl rfl ?_
  refine j_getI (pc := 2) ok_X12 (by decide) rfl w_1246 dX12_see_2 (fun x1 => ?_)
  refine j_icmp_ge (pc := 5) 21 dX12_see_5 (by decide) ?_ ?_
  · refine j_iconst (pc := 21) (v := (-1)) dX12_see_21 (by decide) ?_
    exact j_ireturn (pc := 22) dX12_see_22 rfl rfl
  refine j_aload_n (pc := 8) 0 dX12_see_8 rfl rfl ?_
  refine j_getR (pc := 9) ok_X12 (by decide) rfl w_1243 dX12_see_9 (fun a2 => ?_)
  refine j_iload_n (pc := 12) 1 dX12_see_12 rfl rfl ?_
  refine j_baload (pc := 13) dX12_see_13 (fun x3 => ?_)
  refine j_sipush (pc := 14) (v := 255) dX12_see_14 (by decide) ?_
  refine j_iand (pc := 17) dX12_see_17 ?_
  refine j_goto (pc := 18) 22 dX12_see_18 (by decide) ?_
  exact j_ireturn (pc := 22) dX12_see_22 rfl rfl
theorem dX12_step_0 : decode cX12_step 0 = .ok (.aload_n 0, 1) := by decide +kernel
theorem dX12_step_1 : decode cX12_step 1 = .ok (.aload_n 0, 1) := by decide +kernel
theorem dX12_step_2 : decode cX12_step 2 = .ok (.getfield 128, 3) := by decide +kernel
theorem dX12_step_5 : decode cX12_step 5 = .ok (.invokevirtual 131, 3) := by decide +kernel
theorem dX12_step_8 : decode cX12_step 8 = .ok (.bipush 32, 2) := by decide +kernel
theorem dX12_step_10 : decode cX12_step 10 = .ok (.if_icmp .eq 16, 3) := by decide +kernel
theorem dX12_step_13 : decode cX12_step 13 = .ok (.aload_n 0, 1) := by decide +kernel
theorem dX12_step_14 : decode cX12_step 14 = .ok (.aload_n 0, 1) := by decide +kernel
theorem dX12_step_15 : decode cX12_step 15 = .ok (.getfield 128, 3) := by decide +kernel
theorem dX12_step_18 : decode cX12_step 18 = .ok (.invokevirtual 131, 3) := by decide +kernel
theorem dX12_step_21 : decode cX12_step 21 = .ok (.bipush 10, 2) := by decide +kernel
theorem dX12_step_23 : decode cX12_step 23 = .ok (.if_icmp .ne 16, 3) := by decide +kernel
theorem dX12_step_26 : decode cX12_step 26 = .ok (.aload_n 0, 1) := by decide +kernel
theorem dX12_step_27 : decode cX12_step 27 = .ok (.dup, 1) := by decide +kernel
theorem dX12_step_28 : decode cX12_step 28 = .ok (.getfield 128, 3) := by decide +kernel
theorem dX12_step_31 : decode cX12_step 31 = .ok (.iconst 1, 1) := by decide +kernel
theorem dX12_step_32 : decode cX12_step 32 = .ok (.iadd, 1) := by decide +kernel
theorem dX12_step_33 : decode cX12_step 33 = .ok (.putfield 128, 3) := by decide +kernel
theorem dX12_step_36 : decode cX12_step 36 = .ok (.goto (-36), 3) := by decide +kernel
theorem dX12_step_39 : decode cX12_step 39 = .ok (.aload_n 0, 1) := by decide +kernel
theorem dX12_step_40 : decode cX12_step 40 = .ok (.aload_n 0, 1) := by decide +kernel
theorem dX12_step_41 : decode cX12_step 41 = .ok (.getfield 128, 3) := by decide +kernel
theorem dX12_step_44 : decode cX12_step 44 = .ok (.putfield 135, 3) := by decide +kernel
theorem dX12_step_47 : decode cX12_step 47 = .ok (.aload_n 0, 1) := by decide +kernel
theorem dX12_step_48 : decode cX12_step 48 = .ok (.aload_n 0, 1) := by decide +kernel
theorem dX12_step_49 : decode cX12_step 49 = .ok (.getfield 128, 3) := by decide +kernel
theorem dX12_step_52 : decode cX12_step 52 = .ok (.invokevirtual 131, 3) := by decide +kernel
theorem dX12_step_55 : decode cX12_step 55 = .ok (.istore_n 1, 1) := by decide +kernel
theorem dX12_step_56 : decode cX12_step 56 = .ok (.iload_n 1, 1) := by decide +kernel
theorem dX12_step_57 : decode cX12_step 57 = .ok (.iconst (-1), 1) := by decide +kernel
theorem dX12_step_58 : decode cX12_step 58 = .ok (.if_icmp .ne 11, 3) := by decide +kernel
theorem dX12_step_61 : decode cX12_step 61 = .ok (.aload_n 0, 1) := by decide +kernel
theorem dX12_step_62 : decode cX12_step 62 = .ok (.iconst 0, 1) := by decide +kernel
theorem dX12_step_63 : decode cX12_step 63 = .ok (.putfield 138, 3) := by decide +kernel
theorem dX12_step_66 : decode cX12_step 66 = .ok (.goto 196, 3) := by decide +kernel
theorem dX12_step_69 : decode cX12_step 69 = .ok (.iload_n 1, 1) := by decide +kernel
theorem dX12_step_70 : decode cX12_step 70 = .ok (.i2l, 1) := by decide +kernel
theorem dX12_step_71 : decode cX12_step 71 = .ok (.ldc2_w 141, 3) := by decide +kernel
theorem dX12_step_74 : decode cX12_step 74 = .ok (.ldc2_w 143, 3) := by decide +kernel
theorem dX12_step_77 : decode cX12_step 77 = .ok (.invokestatic 110, 3) := by decide +kernel
theorem dX12_step_80 : decode cX12_step 80 = .ok (.ifCond .eq 45, 3) := by decide +kernel
theorem dX12_step_83 : decode cX12_step 83 = .ok (.aload_n 0, 1) := by decide +kernel
theorem dX12_step_84 : decode cX12_step 84 = .ok (.aload_n 0, 1) := by decide +kernel
theorem dX12_step_85 : decode cX12_step 85 = .ok (.getfield 128, 3) := by decide +kernel
theorem dX12_step_88 : decode cX12_step 88 = .ok (.invokevirtual 131, 3) := by decide +kernel
theorem dX12_step_91 : decode cX12_step 91 = .ok (.i2l, 1) := by decide +kernel
theorem dX12_step_92 : decode cX12_step 92 = .ok (.ldc2_w 141, 3) := by decide +kernel
theorem dX12_step_95 : decode cX12_step 95 = .ok (.ldc2_w 143, 3) := by decide +kernel
theorem dX12_step_98 : decode cX12_step 98 = .ok (.invokestatic 110, 3) := by decide +kernel
theorem dX12_step_101 : decode cX12_step 101 = .ok (.ifCond .eq 16, 3) := by decide +kernel
theorem dX12_step_104 : decode cX12_step 104 = .ok (.aload_n 0, 1) := by decide +kernel
theorem dX12_step_105 : decode cX12_step 105 = .ok (.dup, 1) := by decide +kernel
theorem dX12_step_106 : decode cX12_step 106 = .ok (.getfield 128, 3) := by decide +kernel
theorem dX12_step_109 : decode cX12_step 109 = .ok (.iconst 1, 1) := by decide +kernel
theorem dX12_step_110 : decode cX12_step 110 = .ok (.iadd, 1) := by decide +kernel
theorem dX12_step_111 : decode cX12_step 111 = .ok (.putfield 128, 3) := by decide +kernel
theorem dX12_step_114 : decode cX12_step 114 = .ok (.goto (-31), 3) := by decide +kernel
theorem dX12_step_117 : decode cX12_step 117 = .ok (.aload_n 0, 1) := by decide +kernel
theorem dX12_step_118 : decode cX12_step 118 = .ok (.iconst 1, 1) := by decide +kernel
theorem dX12_step_119 : decode cX12_step 119 = .ok (.putfield 138, 3) := by decide +kernel
theorem dX12_step_122 : decode cX12_step 122 = .ok (.goto 140, 3) := by decide +kernel
theorem dX12_step_125 : decode cX12_step 125 = .ok (.iload_n 1, 1) := by decide +kernel
theorem dX12_step_126 : decode cX12_step 126 = .ok (.i2l, 1) := by decide +kernel
theorem dX12_step_127 : decode cX12_step 127 = .ok (.ldc2_w 145, 3) := by decide +kernel
theorem dX12_step_130 : decode cX12_step 130 = .ok (.ldc2_w 147, 3) := by decide +kernel
theorem dX12_step_133 : decode cX12_step 133 = .ok (.invokestatic 110, 3) := by decide +kernel
theorem dX12_step_136 : decode cX12_step 136 = .ok (.ifCond .eq 78, 3) := by decide +kernel
theorem dX12_step_139 : decode cX12_step 139 = .ok (.aload_n 0, 1) := by decide +kernel
theorem dX12_step_140 : decode cX12_step 140 = .ok (.iconst 0, 1) := by decide +kernel
theorem dX12_step_141 : decode cX12_step 141 = .ok (.putfield 149, 3) := by decide +kernel
theorem dX12_step_144 : decode cX12_step 144 = .ok (.aload_n 0, 1) := by decide +kernel
theorem dX12_step_145 : decode cX12_step 145 = .ok (.aload_n 0, 1) := by decide +kernel
theorem dX12_step_146 : decode cX12_step 146 = .ok (.getfield 128, 3) := by decide +kernel
theorem dX12_step_149 : decode cX12_step 149 = .ok (.invokevirtual 131, 3) := by decide +kernel
theorem dX12_step_152 : decode cX12_step 152 = .ok (.i2l, 1) := by decide +kernel
theorem dX12_step_153 : decode cX12_step 153 = .ok (.ldc2_w 145, 3) := by decide +kernel
theorem dX12_step_156 : decode cX12_step 156 = .ok (.ldc2_w 147, 3) := by decide +kernel
theorem dX12_step_159 : decode cX12_step 159 = .ok (.invokestatic 110, 3) := by decide +kernel
theorem dX12_step_162 : decode cX12_step 162 = .ok (.ifCond .eq 44, 3) := by decide +kernel
theorem dX12_step_165 : decode cX12_step 165 = .ok (.aload_n 0, 1) := by decide +kernel
theorem dX12_step_166 : decode cX12_step 166 = .ok (.ldc 152, 2) := by decide +kernel
theorem dX12_step_168 : decode cX12_step 168 = .ok (.bipush 10, 2) := by decide +kernel
theorem dX12_step_170 : decode cX12_step 170 = .ok (.aload_n 0, 1) := by decide +kernel
theorem dX12_step_171 : decode cX12_step 171 = .ok (.getfield 149, 3) := by decide +kernel
theorem dX12_step_174 : decode cX12_step 174 = .ok (.imul, 1) := by decide +kernel
theorem dX12_step_175 : decode cX12_step 175 = .ok (.aload_n 0, 1) := by decide +kernel
theorem dX12_step_176 : decode cX12_step 176 = .ok (.aload_n 0, 1) := by decide +kernel
theorem dX12_step_177 : decode cX12_step 177 = .ok (.getfield 128, 3) := by decide +kernel
theorem dX12_step_180 : decode cX12_step 180 = .ok (.invokevirtual 131, 3) := by decide +kernel
theorem dX12_step_183 : decode cX12_step 183 = .ok (.iadd, 1) := by decide +kernel
theorem dX12_step_184 : decode cX12_step 184 = .ok (.bipush 48, 2) := by decide +kernel
theorem dX12_step_186 : decode cX12_step 186 = .ok (.isub, 1) := by decide +kernel
theorem dX12_step_187 : decode cX12_step 187 = .ok (.invokestatic 153, 3) := by decide +kernel
theorem dX12_step_190 : decode cX12_step 190 = .ok (.putfield 149, 3) := by decide +kernel
theorem dX12_step_193 : decode cX12_step 193 = .ok (.aload_n 0, 1) := by decide +kernel
theorem dX12_step_194 : decode cX12_step 194 = .ok (.dup, 1) := by decide +kernel
theorem dX12_step_195 : decode cX12_step 195 = .ok (.getfield 128, 3) := by decide +kernel
theorem dX12_step_198 : decode cX12_step 198 = .ok (.iconst 1, 1) := by decide +kernel
theorem dX12_step_199 : decode cX12_step 199 = .ok (.iadd, 1) := by decide +kernel
theorem dX12_step_200 : decode cX12_step 200 = .ok (.putfield 128, 3) := by decide +kernel
theorem dX12_step_203 : decode cX12_step 203 = .ok (.goto (-59), 3) := by decide +kernel
theorem dX12_step_206 : decode cX12_step 206 = .ok (.aload_n 0, 1) := by decide +kernel
theorem dX12_step_207 : decode cX12_step 207 = .ok (.iconst 2, 1) := by decide +kernel
theorem dX12_step_208 : decode cX12_step 208 = .ok (.putfield 138, 3) := by decide +kernel
theorem dX12_step_211 : decode cX12_step 211 = .ok (.goto 51, 3) := by decide +kernel
theorem dX12_step_214 : decode cX12_step 214 = .ok (.aload_n 0, 1) := by decide +kernel
theorem dX12_step_215 : decode cX12_step 215 = .ok (.iload_n 1, 1) := by decide +kernel
theorem dX12_step_216 : decode cX12_step 216 = .ok (.putfield 149, 3) := by decide +kernel
theorem dX12_step_219 : decode cX12_step 219 = .ok (.aload_n 0, 1) := by decide +kernel
theorem dX12_step_220 : decode cX12_step 220 = .ok (.iload_n 1, 1) := by decide +kernel
theorem dX12_step_221 : decode cX12_step 221 = .ok (.bipush 60, 2) := by decide +kernel
theorem dX12_step_223 : decode cX12_step 223 = .ok (.if_icmp .eq 21, 3) := by decide +kernel
theorem dX12_step_226 : decode cX12_step 226 = .ok (.iload_n 1, 1) := by decide +kernel
theorem dX12_step_227 : decode cX12_step 227 = .ok (.bipush 62, 2) := by decide +kernel
theorem dX12_step_229 : decode cX12_step 229 = .ok (.if_icmp .eq 15, 3) := by decide +kernel
theorem dX12_step_232 : decode cX12_step 232 = .ok (.iload_n 1, 1) := by decide +kernel
theorem dX12_step_233 : decode cX12_step 233 = .ok (.bipush 45, 2) := by decide +kernel
theorem dX12_step_235 : decode cX12_step 235 = .ok (.if_icmp .eq 9, 3) := by decide +kernel
theorem dX12_step_238 : decode cX12_step 238 = .ok (.iload_n 1, 1) := by decide +kernel
theorem dX12_step_239 : decode cX12_step 239 = .ok (.bipush 59, 2) := by decide +kernel
theorem dX12_step_241 : decode cX12_step 241 = .ok (.if_icmp .ne 7, 3) := by decide +kernel
theorem dX12_step_244 : decode cX12_step 244 = .ok (.iconst 3, 1) := by decide +kernel
theorem dX12_step_245 : decode cX12_step 245 = .ok (.goto 4, 3) := by decide +kernel
theorem dX12_step_248 : decode cX12_step 248 = .ok (.iconst 4, 1) := by decide +kernel
theorem dX12_step_249 : decode cX12_step 249 = .ok (.putfield 138, 3) := by decide +kernel
theorem dX12_step_252 : decode cX12_step 252 = .ok (.aload_n 0, 1) := by decide +kernel
theorem dX12_step_253 : decode cX12_step 253 = .ok (.dup, 1) := by decide +kernel
theorem dX12_step_254 : decode cX12_step 254 = .ok (.getfield 128, 3) := by decide +kernel
theorem dX12_step_257 : decode cX12_step 257 = .ok (.iconst 1, 1) := by decide +kernel
theorem dX12_step_258 : decode cX12_step 258 = .ok (.iadd, 1) := by decide +kernel
theorem dX12_step_259 : decode cX12_step 259 = .ok (.putfield 128, 3) := by decide +kernel
theorem dX12_step_262 : decode cX12_step 262 = .ok (.return_, 1) := by decide +kernel
theorem cw_X12_step_131 : CwV mi_X12_step mi_X12_see yX12_see RX12 131 1 := ⟨⟨w_1388, w_1390, w_45, w_108, w_1391⟩, ⟨by decide, by decide⟩, by decide +kernel, by decide, by decide⟩
theorem cw_X12_step_110 : CwS mi_X12_step mi_X12_in yX12_in 110 3 := ⟨⟨w_1365, w_1366, w_108, w_1367⟩, ⟨by decide, by decide⟩, by decide +kernel, by decide, by decide⟩
theorem cw_X12_step_153 : CwS mi_X12_step mi_J9_min_7cf53 yJ9_min_7cf53 153 2 := ⟨⟨w_1397, w_604, w_109, w_605⟩, ⟨by decide, by decide⟩, by decide +kernel, by decide, by decide⟩
theorem j_X12_step_B249 {l : Launch} {Γ : Am}   : ∀ (r0 : Nat) (t0 : Int32) (b1 : Nat) (z : Hp), J l Γ mi_X12_step cvV 0 0 249 [(0, .ref (mB Γ + r0))] [.int t0, .ref (mB Γ + b1)] z (m_X12_step_B249  r0 t0 b1 z) := by
  intro r0 t0 b1 z
  unfold m_X12_step_B249
  refine j_putI (pc := 249) ok_X12 (by decide) rfl w_1249 (Or.inl rfl) rfl rfl dX12_step_249 (fun z1 => ?_)
  refine j_aload_n (pc := 252) 0 dX12_step_252 rfl rfl ?_
  refine j_dup (pc := 253) dX12_step_253 rfl ?_
  refine j_getI (pc := 254) ok_X12 (by decide) rfl w_1247 dX12_step_254 (fun x2 => ?_)
  refine j_iconst (pc := 257) (v := 1) dX12_step_257 (by decide) ?_
  refine j_iadd (pc := 258) dX12_step_258 ?_
  refine j_putI (pc := 259) ok_X12 (by decide) rfl w_1247 (Or.inl rfl) rfl rfl dX12_step_259 (fun z3 => ?_)
  exact j_return (pc := 262) dX12_step_262 rfl
theorem j_X12_step_B244 {l : Launch} {Γ : Am}   : ∀ (r0 : Nat) (b0 : Nat) (z : Hp), J l Γ mi_X12_step cvV 0 0 244 [(0, .ref (mB Γ + r0))] [.ref (mB Γ + b0)] z (m_X12_step_B244  r0 b0 z) := by
  intro r0 b0 z
  unfold m_X12_step_B244
  refine j_iconst (pc := 244) (v := 3) dX12_step_244 (by decide) ?_
  refine j_goto (pc := 245) 249 dX12_step_245 (by decide) ?_
  exact J.sub [0] rfl (j_X12_step_B249 r0 3 b0 z)
theorem j_X12_step_B206 {l : Launch} {Γ : Am}   : ∀ (r0 : Nat) (z : Hp), J l Γ mi_X12_step cvV 0 0 206 [(0, .ref (mB Γ + r0))] [] z (m_X12_step_B206  r0 z) := by
  intro r0 z
  unfold m_X12_step_B206
  refine j_aload_n (pc := 206) 0 dX12_step_206 rfl rfl ?_
  refine j_iconst (pc := 207) (v := 2) dX12_step_207 (by decide) ?_
  refine j_putI (pc := 208) ok_X12 (by decide) rfl w_1249 (Or.inl rfl) rfl rfl dX12_step_208 (fun z4 => ?_)
  refine j_goto (pc := 211) 262 dX12_step_211 (by decide) ?_
  exact j_return (pc := 262) dX12_step_262 rfl
theorem j_X12_step_L144 {l : Launch} {Γ : Am} {k206 : Nat → Hp → Option (Unit × Hp)} (hL206 : ∀ (r0 : Nat) (z : Hp), J l Γ mi_X12_step cvV 0 0 206 [(0, .ref (mB Γ + r0))] [] z (k206 r0 z)) : ∀ (f : Nat), ∀ (r0 : Nat) (z : Hp), J l Γ mi_X12_step cvV 0 0 144 [(0, .ref (mB Γ + r0))] [] z (m_X12_step_L144 k206 f r0 z) := by
  intro f
  induction f with
  | zero => intro r0 z; exact J.none
  | succ f hL144 =>
    intro r0 z
    rw [m_X12_step_L144]
    refine j_aload_n (pc := 144) 0 dX12_step_144 rfl rfl ?_
    refine j_aload_n (pc := 145) 0 dX12_step_145 rfl rfl ?_
    refine j_getI (pc := 146) ok_X12 (by decide) rfl w_1247 dX12_step_146 (fun x5 => ?_)
    refine j_isC (fun h8 => ?_)
    refine j_callV_I (pc := 149) (as := [.int x5]) (mc2 := 0) (ms2 := 0) (ct_X12_see _ _ _) h8 rfl cw_X12_step_131 dX12_step_149 (Nat.le_of_ble_eq_true rfl) rfl (by decide) (by decide) (fun x7 z6 => ?_)
    refine j_i2l (pc := 152) dX12_step_152 ?_
    refine j_ldc2 (pc := 153) (v := 48) dX12_step_153 w_1394 ?_
    refine j_ldc2 (pc := 156) (v := 57) dX12_step_156 w_1395 ?_
    refine j_callS_I (pc := 159) (as := [.long (Int32.toInt64 x7), .long 48, .long 57]) (mc2 := 0) (ms2 := 0) (ct_X12_in _ _ _ _) cw_X12_step_110 dX12_step_159 (Nat.le_of_ble_eq_true rfl) rfl (by decide) (by decide) (fun x10 z9 => ?_)
    refine j_if_eq (pc := 162) 206 dX12_step_162 (by decide) ?_ ?_
    · exact J.sub [0] rfl (hL206 r0 z9)
    refine j_aload_n (pc := 165) 0 dX12_step_165 rfl rfl ?_
    refine j_ldc (pc := 166) (v := 999999) dX12_step_166 w_1396 ?_
    refine j_bipush (pc := 168) (v := 10) dX12_step_168 (by decide) ?_
    refine j_aload_n (pc := 170) 0 dX12_step_170 rfl rfl ?_
    refine j_getI (pc := 171) ok_X12 (by decide) rfl w_1250 dX12_step_171 (fun x11 => ?_)
    refine j_imul (pc := 174) dX12_step_174 ?_
    refine j_aload_n (pc := 175) 0 dX12_step_175 rfl rfl ?_
    refine j_aload_n (pc := 176) 0 dX12_step_176 rfl rfl ?_
    refine j_getI (pc := 177) ok_X12 (by decide) rfl w_1247 dX12_step_177 (fun x12 => ?_)
    refine j_isC (fun h15 => ?_)
    refine j_callV_I (pc := 180) (as := [.int x12]) (mc2 := 0) (ms2 := 0) (ct_X12_see _ _ _) h15 rfl cw_X12_step_131 dX12_step_180 (Nat.le_of_ble_eq_true rfl) rfl (by decide) (by decide) (fun x14 z13 => ?_)
    refine j_iadd (pc := 183) dX12_step_183 ?_
    refine j_bipush (pc := 184) (v := 48) dX12_step_184 (by decide) ?_
    refine j_isub (pc := 186) dX12_step_186 ?_
    refine j_callS_I (pc := 187) (as := [.int 999999, .int (((10 * x11) + x14) - 48)]) (mc2 := 0) (ms2 := 0) (ct_J9_min_7cf53 _ _ _) cw_X12_step_153 dX12_step_187 (Nat.le_of_ble_eq_true rfl) rfl (by decide) (by decide) (fun x17 z16 => ?_)
    refine j_putI (pc := 190) ok_X12 (by decide) rfl w_1250 (Or.inl rfl) rfl rfl dX12_step_190 (fun z18 => ?_)
    refine j_aload_n (pc := 193) 0 dX12_step_193 rfl rfl ?_
    refine j_dup (pc := 194) dX12_step_194 rfl ?_
    refine j_getI (pc := 195) ok_X12 (by decide) rfl w_1247 dX12_step_195 (fun x19 => ?_)
    refine j_iconst (pc := 198) (v := 1) dX12_step_198 (by decide) ?_
    refine j_iadd (pc := 199) dX12_step_199 ?_
    refine j_putI (pc := 200) ok_X12 (by decide) rfl w_1247 (Or.inl rfl) rfl rfl dX12_step_200 (fun z20 => ?_)
    refine j_goto (pc := 203) 144 dX12_step_203 (by decide) ?_
    exact J.sub [0] rfl (hL144 r0 z20)
theorem j_X12_step_B117 {l : Launch} {Γ : Am}   : ∀ (r0 : Nat) (z : Hp), J l Γ mi_X12_step cvV 0 0 117 [(0, .ref (mB Γ + r0))] [] z (m_X12_step_B117  r0 z) := by
  intro r0 z
  unfold m_X12_step_B117
  refine j_aload_n (pc := 117) 0 dX12_step_117 rfl rfl ?_
  refine j_iconst (pc := 118) (v := 1) dX12_step_118 (by decide) ?_
  refine j_putI (pc := 119) ok_X12 (by decide) rfl w_1249 (Or.inl rfl) rfl rfl dX12_step_119 (fun z21 => ?_)
  refine j_goto (pc := 122) 262 dX12_step_122 (by decide) ?_
  exact j_return (pc := 262) dX12_step_262 rfl
theorem j_X12_step_L83 {l : Launch} {Γ : Am} {k117 : Nat → Hp → Option (Unit × Hp)} (hL117 : ∀ (r0 : Nat) (z : Hp), J l Γ mi_X12_step cvV 0 0 117 [(0, .ref (mB Γ + r0))] [] z (k117 r0 z)) : ∀ (f : Nat), ∀ (r0 : Nat) (z : Hp), J l Γ mi_X12_step cvV 0 0 83 [(0, .ref (mB Γ + r0))] [] z (m_X12_step_L83 k117 f r0 z) := by
  intro f
  induction f with
  | zero => intro r0 z; exact J.none
  | succ f hL83 =>
    intro r0 z
    rw [m_X12_step_L83]
    refine j_aload_n (pc := 83) 0 dX12_step_83 rfl rfl ?_
    refine j_aload_n (pc := 84) 0 dX12_step_84 rfl rfl ?_
    refine j_getI (pc := 85) ok_X12 (by decide) rfl w_1247 dX12_step_85 (fun x22 => ?_)
    refine j_isC (fun h25 => ?_)
    refine j_callV_I (pc := 88) (as := [.int x22]) (mc2 := 0) (ms2 := 0) (ct_X12_see _ _ _) h25 rfl cw_X12_step_131 dX12_step_88 (Nat.le_of_ble_eq_true rfl) rfl (by decide) (by decide) (fun x24 z23 => ?_)
    refine j_i2l (pc := 91) dX12_step_91 ?_
    refine j_ldc2 (pc := 92) (v := 97) dX12_step_92 w_1392 ?_
    refine j_ldc2 (pc := 95) (v := 122) dX12_step_95 w_1393 ?_
    refine j_callS_I (pc := 98) (as := [.long (Int32.toInt64 x24), .long 97, .long 122]) (mc2 := 0) (ms2 := 0) (ct_X12_in _ _ _ _) cw_X12_step_110 dX12_step_98 (Nat.le_of_ble_eq_true rfl) rfl (by decide) (by decide) (fun x27 z26 => ?_)
    refine j_if_eq (pc := 101) 117 dX12_step_101 (by decide) ?_ ?_
    · exact J.sub [0] rfl (hL117 r0 z26)
    refine j_aload_n (pc := 104) 0 dX12_step_104 rfl rfl ?_
    refine j_dup (pc := 105) dX12_step_105 rfl ?_
    refine j_getI (pc := 106) ok_X12 (by decide) rfl w_1247 dX12_step_106 (fun x28 => ?_)
    refine j_iconst (pc := 109) (v := 1) dX12_step_109 (by decide) ?_
    refine j_iadd (pc := 110) dX12_step_110 ?_
    refine j_putI (pc := 111) ok_X12 (by decide) rfl w_1247 (Or.inl rfl) rfl rfl dX12_step_111 (fun z29 => ?_)
    refine j_goto (pc := 114) 83 dX12_step_114 (by decide) ?_
    exact J.sub [0] rfl (hL83 r0 z29)
theorem j_X12_step_B39 {l : Launch} {Γ : Am}   : ∀ (r0 : Nat) (z : Hp), J l Γ mi_X12_step cvV 0 0 39 [(0, .ref (mB Γ + r0))] [] z (m_X12_step_B39  r0 z) := by
  intro r0 z
  unfold m_X12_step_B39
  refine j_aload_n (pc := 39) 0 dX12_step_39 rfl rfl ?_
  refine j_aload_n (pc := 40) 0 dX12_step_40 rfl rfl ?_
  refine j_getI (pc := 41) ok_X12 (by decide) rfl w_1247 dX12_step_41 (fun x30 => ?_)
  refine j_putI (pc := 44) ok_X12 (by decide) rfl w_1248 (Or.inl rfl) rfl rfl dX12_step_44 (fun z31 => ?_)
  refine j_aload_n (pc := 47) 0 dX12_step_47 rfl rfl ?_
  refine j_aload_n (pc := 48) 0 dX12_step_48 rfl rfl ?_
  refine j_getI (pc := 49) ok_X12 (by decide) rfl w_1247 dX12_step_49 (fun x32 => ?_)
  refine j_isC (fun h35 => ?_)
  refine j_callV_I (pc := 52) (as := [.int x32]) (mc2 := 0) (ms2 := 0) (ct_X12_see _ _ _) h35 rfl cw_X12_step_131 dX12_step_52 (Nat.le_of_ble_eq_true rfl) rfl (by decide) (by decide) (fun x34 z33 => ?_)
  refine j_istore_n (pc := 55) (lv2 := [(1, .int x34), (0, .ref (mB Γ + r0))]) dX12_step_55 rfl (by decide) rfl ?_
  refine j_iload_n (pc := 56) 0 dX12_step_56 rfl rfl ?_
  refine j_iconst (pc := 57) (v := (-1)) dX12_step_57 (by decide) ?_
  refine j_icmp_ne (pc := 58) 69 dX12_step_58 (by decide) ?_ ?_
  · refine j_iload_n (pc := 69) 0 dX12_step_69 rfl rfl ?_
    refine j_i2l (pc := 70) dX12_step_70 ?_
    refine j_ldc2 (pc := 71) (v := 97) dX12_step_71 w_1392 ?_
    refine j_ldc2 (pc := 74) (v := 122) dX12_step_74 w_1393 ?_
    refine j_callS_I (pc := 77) (as := [.long (Int32.toInt64 x34), .long 97, .long 122]) (mc2 := 0) (ms2 := 0) (ct_X12_in _ _ _ _) cw_X12_step_110 dX12_step_77 (Nat.le_of_ble_eq_true rfl) rfl (by decide) (by decide) (fun x37 z36 => ?_)
    refine j_if_eq (pc := 80) 125 dX12_step_80 (by decide) ?_ ?_
    · refine j_iload_n (pc := 125) 0 dX12_step_125 rfl rfl ?_
      refine j_i2l (pc := 126) dX12_step_126 ?_
      refine j_ldc2 (pc := 127) (v := 48) dX12_step_127 w_1394 ?_
      refine j_ldc2 (pc := 130) (v := 57) dX12_step_130 w_1395 ?_
      refine j_callS_I (pc := 133) (as := [.long (Int32.toInt64 x34), .long 48, .long 57]) (mc2 := 0) (ms2 := 0) (ct_X12_in _ _ _ _) cw_X12_step_110 dX12_step_133 (Nat.le_of_ble_eq_true rfl) rfl (by decide) (by decide) (fun x39 z38 => ?_)
      refine j_if_eq (pc := 136) 214 dX12_step_136 (by decide) ?_ ?_
      · refine j_aload_n (pc := 214) 1 dX12_step_214 rfl rfl ?_
        refine j_iload_n (pc := 215) 0 dX12_step_215 rfl rfl ?_
        refine j_putI (pc := 216) ok_X12 (by decide) rfl w_1250 (Or.inl rfl) rfl rfl dX12_step_216 (fun z40 => ?_)
        refine j_aload_n (pc := 219) 1 dX12_step_219 rfl rfl ?_
        refine j_iload_n (pc := 220) 0 dX12_step_220 rfl rfl ?_
        refine j_bipush (pc := 221) (v := 60) dX12_step_221 (by decide) ?_
        refine j_icmp_eq (pc := 223) 244 dX12_step_223 (by decide) ?_ ?_
        · exact J.sub [1] rfl (j_X12_step_B244 r0 r0 z40)
        refine j_iload_n (pc := 226) 0 dX12_step_226 rfl rfl ?_
        refine j_bipush (pc := 227) (v := 62) dX12_step_227 (by decide) ?_
        refine j_icmp_eq (pc := 229) 244 dX12_step_229 (by decide) ?_ ?_
        · exact J.sub [1] rfl (j_X12_step_B244 r0 r0 z40)
        refine j_iload_n (pc := 232) 0 dX12_step_232 rfl rfl ?_
        refine j_bipush (pc := 233) (v := 45) dX12_step_233 (by decide) ?_
        refine j_icmp_eq (pc := 235) 244 dX12_step_235 (by decide) ?_ ?_
        · exact J.sub [1] rfl (j_X12_step_B244 r0 r0 z40)
        refine j_iload_n (pc := 238) 0 dX12_step_238 rfl rfl ?_
        refine j_bipush (pc := 239) (v := 59) dX12_step_239 (by decide) ?_
        refine j_icmp_ne (pc := 241) 248 dX12_step_241 (by decide) ?_ ?_
        · refine j_iconst (pc := 248) (v := 4) dX12_step_248 (by decide) ?_
          exact J.sub [1] rfl (j_X12_step_B249 r0 4 r0 z40)
        exact J.sub [1] rfl (j_X12_step_B244 r0 r0 z40)
      refine j_aload_n (pc := 139) 1 dX12_step_139 rfl rfl ?_
      refine j_iconst (pc := 140) (v := 0) dX12_step_140 (by decide) ?_
      refine j_putI (pc := 141) ok_X12 (by decide) rfl w_1250 (Or.inl rfl) rfl rfl dX12_step_141 (fun z41 => ?_)
      exact J.sub [1] rfl ((j_X12_step_L144 j_X12_step_B206 FU) r0 z41)
    exact J.sub [1] rfl ((j_X12_step_L83 j_X12_step_B117 FU) r0 z36)
  refine j_aload_n (pc := 61) 1 dX12_step_61 rfl rfl ?_
  refine j_iconst (pc := 62) (v := 0) dX12_step_62 (by decide) ?_
  refine j_putI (pc := 63) ok_X12 (by decide) rfl w_1249 (Or.inl rfl) rfl rfl dX12_step_63 (fun z42 => ?_)
  refine j_goto (pc := 66) 262 dX12_step_66 (by decide) ?_
  exact j_return (pc := 262) dX12_step_262 rfl
theorem j_X12_step_B26 {l : Launch} {Γ : Am} {k0 : Nat → Hp → Option (Unit × Hp)} (hL0 : ∀ (r0 : Nat) (z : Hp), J l Γ mi_X12_step cvV 0 0 0 [(0, .ref (mB Γ + r0))] [] z (k0 r0 z)) : ∀ (r0 : Nat) (z : Hp), J l Γ mi_X12_step cvV 0 0 26 [(0, .ref (mB Γ + r0))] [] z (m_X12_step_B26 k0 r0 z) := by
  intro r0 z
  unfold m_X12_step_B26
  refine j_aload_n (pc := 26) 0 dX12_step_26 rfl rfl ?_
  refine j_dup (pc := 27) dX12_step_27 rfl ?_
  refine j_getI (pc := 28) ok_X12 (by decide) rfl w_1247 dX12_step_28 (fun x43 => ?_)
  refine j_iconst (pc := 31) (v := 1) dX12_step_31 (by decide) ?_
  refine j_iadd (pc := 32) dX12_step_32 ?_
  refine j_putI (pc := 33) ok_X12 (by decide) rfl w_1247 (Or.inl rfl) rfl rfl dX12_step_33 (fun z44 => ?_)
  refine j_goto (pc := 36) 0 dX12_step_36 (by decide) ?_
  exact J.sub [0] rfl (hL0 r0 z44)
theorem j_X12_step_L0 {l : Launch} {Γ : Am} {k39 : Nat → Hp → Option (Unit × Hp)} (hL39 : ∀ (r0 : Nat) (z : Hp), J l Γ mi_X12_step cvV 0 0 39 [(0, .ref (mB Γ + r0))] [] z (k39 r0 z)) : ∀ (f : Nat), ∀ (r0 : Nat) (z : Hp), J l Γ mi_X12_step cvV 0 0 0 [(0, .ref (mB Γ + r0))] [] z (m_X12_step_L0 k39 f r0 z) := by
  intro f
  induction f with
  | zero => intro r0 z; exact J.none
  | succ f hL0 =>
    intro r0 z
    rw [m_X12_step_L0]
    refine j_aload_n (pc := 0) 0 dX12_step_0 rfl rfl ?_
    refine j_aload_n (pc := 1) 0 dX12_step_1 rfl rfl ?_
    refine j_getI (pc := 2) ok_X12 (by decide) rfl w_1247 dX12_step_2 (fun x45 => ?_)
    refine j_isC (fun h48 => ?_)
    refine j_callV_I (pc := 5) (as := [.int x45]) (mc2 := 0) (ms2 := 0) (ct_X12_see _ _ _) h48 rfl cw_X12_step_131 dX12_step_5 (Nat.le_of_ble_eq_true rfl) rfl (by decide) (by decide) (fun x47 z46 => ?_)
    refine j_bipush (pc := 8) (v := 32) dX12_step_8 (by decide) ?_
    refine j_icmp_eq (pc := 10) 26 dX12_step_10 (by decide) ?_ ?_
    · exact J.sub [0] rfl ((j_X12_step_B26 hL0) r0 z46)
    refine j_aload_n (pc := 13) 0 dX12_step_13 rfl rfl ?_
    refine j_aload_n (pc := 14) 0 dX12_step_14 rfl rfl ?_
    refine j_getI (pc := 15) ok_X12 (by decide) rfl w_1247 dX12_step_15 (fun x49 => ?_)
    refine j_isC (fun h52 => ?_)
    refine j_callV_I (pc := 18) (as := [.int x49]) (mc2 := 0) (ms2 := 0) (ct_X12_see _ _ _) h52 rfl cw_X12_step_131 dX12_step_18 (Nat.le_of_ble_eq_true rfl) rfl (by decide) (by decide) (fun x51 z50 => ?_)
    refine j_bipush (pc := 21) (v := 10) dX12_step_21 (by decide) ?_
    refine j_icmp_ne (pc := 23) 39 dX12_step_23 (by decide) ?_ ?_
    · exact J.sub [0] rfl (hL39 r0 z50)
    exact J.sub [0] rfl ((j_X12_step_B26 hL0) r0 z50)
theorem ct_X12_step {l : Launch} {Γ : Am} (r0 : Nat) (z : Hp) : Ct l Γ yX12_step mi_X12_step cvV [.ref (mB Γ + r0)] z (m_X12_step r0 z) := by
  refine Ct.ofJ (by decide) ⟨rfl, rfl⟩ (Nat.le_of_ble_eq_true rfl) ?_
  unfold m_X12_step
  show J l Γ mi_X12_step cvV 0 0 0 [(0, .ref (mB Γ + r0))] [] z _
  exact J.sub [0] rfl ((j_X12_step_L0 j_X12_step_B39 FU) r0 z)
theorem dX12_good_0 : decode cX12_good 0 = .ok (.aload_n 0, 1) := by decide +kernel
theorem dX12_good_1 : decode cX12_good 1 = .ok (.getfield 158, 3) := by decide +kernel
theorem dX12_good_4 : decode cX12_good 4 = .ok (.ifCond .ne 7, 3) := by decide +kernel
theorem dX12_good_7 : decode cX12_good 7 = .ok (.iconst 1, 1) := by decide +kernel
theorem dX12_good_8 : decode cX12_good 8 = .ok (.goto 4, 3) := by decide +kernel
theorem dX12_good_11 : decode cX12_good 11 = .ok (.iconst 0, 1) := by decide +kernel
theorem dX12_good_12 : decode cX12_good 12 = .ok (.ireturn, 1) := by decide +kernel
theorem ct_X12_good {l : Launch} {Γ : Am} (r0 : Nat) (z : Hp) : Ct l Γ yX12_good mi_X12_good cvI [.ref (mB Γ + r0)] z (m_X12_good r0 z) := by
  refine Ct.ofJ (by decide) ⟨rfl, rfl⟩ (Nat.le_of_ble_eq_true rfl) ?_
  unfold m_X12_good
  show J l Γ mi_X12_good cvI 0 0 0 [(0, .ref (mB Γ + r0))] [] z _
  refine j_aload_n (pc := 0) 0 dX12_good_0 rfl rfl ?_
  refine j_getI (pc := 1) ok_X12 (by decide) rfl w_1251 dX12_good_1 (fun x1 => ?_)
  refine j_if_ne (pc := 4) 11 dX12_good_4 (by decide) ?_ ?_
  · refine j_iconst (pc := 11) (v := 0) dX12_good_11 (by decide) ?_
    exact j_ireturn (pc := 12) dX12_good_12 rfl rfl
  refine j_iconst (pc := 7) (v := 1) dX12_good_7 (by decide) ?_
  refine j_goto (pc := 8) 12 dX12_good_8 (by decide) ?_
  exact j_ireturn (pc := 12) dX12_good_12 rfl rfl
theorem dX12_wrong_0 : decode cX12_wrong 0 = .ok (.aload_n 0, 1) := by decide +kernel
theorem dX12_wrong_1 : decode cX12_wrong 1 = .ok (.invokevirtual 161, 3) := by decide +kernel
theorem dX12_wrong_4 : decode cX12_wrong 4 = .ok (.ifCond .ne 4, 3) := by decide +kernel
theorem dX12_wrong_7 : decode cX12_wrong 7 = .ok (.return_, 1) := by decide +kernel
theorem dX12_wrong_8 : decode cX12_wrong 8 = .ok (.aload_n 0, 1) := by decide +kernel
theorem dX12_wrong_9 : decode cX12_wrong 9 = .ok (.iload_n 1, 1) := by decide +kernel
theorem dX12_wrong_10 : decode cX12_wrong 10 = .ok (.putfield 158, 3) := by decide +kernel
theorem dX12_wrong_13 : decode cX12_wrong 13 = .ok (.aload_n 0, 1) := by decide +kernel
theorem dX12_wrong_14 : decode cX12_wrong 14 = .ok (.aload_n 0, 1) := by decide +kernel
theorem dX12_wrong_15 : decode cX12_wrong 15 = .ok (.getfield 135, 3) := by decide +kernel
theorem dX12_wrong_18 : decode cX12_wrong 18 = .ok (.putfield 34, 3) := by decide +kernel
theorem dX12_wrong_21 : decode cX12_wrong 21 = .ok (.return_, 1) := by decide +kernel
theorem cw_X12_wrong_161 : CwV mi_X12_wrong mi_X12_good yX12_good RX12 161 0 := ⟨⟨w_1398, w_1400, w_46, w_108, w_1401⟩, ⟨by decide, by decide⟩, by decide +kernel, by decide, by decide⟩
theorem ct_X12_wrong {l : Launch} {Γ : Am} (r0 : Nat) (v1 : Int32) (z : Hp) : Ct l Γ yX12_wrong mi_X12_wrong cvV [.ref (mB Γ + r0), .int v1] z (m_X12_wrong r0 v1 z) := by
  refine Ct.ofJ (by decide) ⟨rfl, rfl⟩ (Nat.le_of_ble_eq_true rfl) ?_
  unfold m_X12_wrong
  show J l Γ mi_X12_wrong cvV 0 0 0 [(0, .ref (mB Γ + r0)), (1, .int v1)] [] z _
  refine j_aload_n (pc := 0) 0 dX12_wrong_0 rfl rfl ?_
  refine j_isC (fun h3 => ?_)
  refine j_callV_I (pc := 1) (as := []) (mc2 := 0) (ms2 := 0) (ct_X12_good _ _) h3 rfl cw_X12_wrong_161 dX12_wrong_1 (Nat.le_of_ble_eq_true rfl) rfl (by decide) (by decide) (fun x2 z1 => ?_)
  refine j_if_ne (pc := 4) 8 dX12_wrong_4 (by decide) ?_ ?_
  · refine j_aload_n (pc := 8) 0 dX12_wrong_8 rfl rfl ?_
    refine j_iload_n (pc := 9) 1 dX12_wrong_9 rfl rfl ?_
    refine j_putI (pc := 10) ok_X12 (by decide) rfl w_1251 (Or.inl rfl) rfl rfl dX12_wrong_10 (fun z4 => ?_)
    refine j_aload_n (pc := 13) 0 dX12_wrong_13 rfl rfl ?_
    refine j_aload_n (pc := 14) 0 dX12_wrong_14 rfl rfl ?_
    refine j_getI (pc := 15) ok_X12 (by decide) rfl w_1248 dX12_wrong_15 (fun x5 => ?_)
    refine j_putI (pc := 18) ok_X12 (by decide) rfl w_1252 (Or.inl rfl) rfl rfl dX12_wrong_18 (fun z6 => ?_)
    exact j_return (pc := 21) dX12_wrong_21 rfl
  exact j_return (pc := 7) dX12_wrong_7 rfl
theorem dX12_is_0 : decode cX12_is 0 = .ok (.aload_n 0, 1) := by decide +kernel
theorem dX12_is_1 : decode cX12_is 1 = .ok (.invokevirtual 161, 3) := by decide +kernel
theorem dX12_is_4 : decode cX12_is 4 = .ok (.ifCond .eq 31, 3) := by decide +kernel
theorem dX12_is_7 : decode cX12_is 7 = .ok (.aload_n 0, 1) := by decide +kernel
theorem dX12_is_8 : decode cX12_is 8 = .ok (.getfield 138, 3) := by decide +kernel
theorem dX12_is_11 : decode cX12_is 11 = .ok (.iconst 1, 1) := by decide +kernel
theorem dX12_is_12 : decode cX12_is 12 = .ok (.if_icmp .ne 23, 3) := by decide +kernel
theorem dX12_is_15 : decode cX12_is 15 = .ok (.aload_n 0, 1) := by decide +kernel
theorem dX12_is_16 : decode cX12_is 16 = .ok (.getfield 128, 3) := by decide +kernel
theorem dX12_is_19 : decode cX12_is 19 = .ok (.aload_n 0, 1) := by decide +kernel
theorem dX12_is_20 : decode cX12_is 20 = .ok (.getfield 135, 3) := by decide +kernel
theorem dX12_is_23 : decode cX12_is 23 = .ok (.isub, 1) := by decide +kernel
theorem dX12_is_24 : decode cX12_is 24 = .ok (.aload_n 1, 1) := by decide +kernel
theorem dX12_is_25 : decode cX12_is 25 = .ok (.invokevirtual 165, 3) := by decide +kernel
theorem dX12_is_28 : decode cX12_is 28 = .ok (.if_icmp .ne 7, 3) := by decide +kernel
theorem dX12_is_31 : decode cX12_is 31 = .ok (.iconst 1, 1) := by decide +kernel
theorem dX12_is_32 : decode cX12_is 32 = .ok (.goto 4, 3) := by decide +kernel
theorem dX12_is_35 : decode cX12_is 35 = .ok (.iconst 0, 1) := by decide +kernel
theorem dX12_is_36 : decode cX12_is 36 = .ok (.istore_n 2, 1) := by decide +kernel
theorem dX12_is_37 : decode cX12_is 37 = .ok (.iconst 0, 1) := by decide +kernel
theorem dX12_is_38 : decode cX12_is 38 = .ok (.istore_n 3, 1) := by decide +kernel
theorem dX12_is_39 : decode cX12_is 39 = .ok (.iload_n 3, 1) := by decide +kernel
theorem dX12_is_40 : decode cX12_is 40 = .ok (.aload_n 1, 1) := by decide +kernel
theorem dX12_is_41 : decode cX12_is 41 = .ok (.invokevirtual 165, 3) := by decide +kernel
theorem dX12_is_44 : decode cX12_is 44 = .ok (.if_icmp .ge 38, 3) := by decide +kernel
theorem dX12_is_47 : decode cX12_is 47 = .ok (.iload_n 2, 1) := by decide +kernel
theorem dX12_is_48 : decode cX12_is 48 = .ok (.ifCond .eq 34, 3) := by decide +kernel
theorem dX12_is_51 : decode cX12_is 51 = .ok (.aload_n 0, 1) := by decide +kernel
theorem dX12_is_52 : decode cX12_is 52 = .ok (.getfield 27, 3) := by decide +kernel
theorem dX12_is_55 : decode cX12_is 55 = .ok (.aload_n 0, 1) := by decide +kernel
theorem dX12_is_56 : decode cX12_is 56 = .ok (.getfield 135, 3) := by decide +kernel
theorem dX12_is_59 : decode cX12_is 59 = .ok (.iload_n 3, 1) := by decide +kernel
theorem dX12_is_60 : decode cX12_is 60 = .ok (.iadd, 1) := by decide +kernel
theorem dX12_is_61 : decode cX12_is 61 = .ok (.baload, 1) := by decide +kernel
theorem dX12_is_62 : decode cX12_is 62 = .ok (.aload_n 1, 1) := by decide +kernel
theorem dX12_is_63 : decode cX12_is 63 = .ok (.iload_n 3, 1) := by decide +kernel
theorem dX12_is_64 : decode cX12_is 64 = .ok (.invokevirtual 170, 3) := by decide +kernel
theorem dX12_is_67 : decode cX12_is 67 = .ok (.if_icmp .ne 7, 3) := by decide +kernel
theorem dX12_is_70 : decode cX12_is 70 = .ok (.iconst 1, 1) := by decide +kernel
theorem dX12_is_71 : decode cX12_is 71 = .ok (.goto 4, 3) := by decide +kernel
theorem dX12_is_74 : decode cX12_is 74 = .ok (.iconst 0, 1) := by decide +kernel
theorem dX12_is_75 : decode cX12_is 75 = .ok (.istore_n 2, 1) := by decide +kernel
theorem dX12_is_76 : decode cX12_is 76 = .ok (.iinc 3 1, 3) := by decide +kernel
theorem dX12_is_79 : decode cX12_is 79 = .ok (.goto (-40), 3) := by decide +kernel
theorem dX12_is_82 : decode cX12_is 82 = .ok (.iload_n 2, 1) := by decide +kernel
theorem dX12_is_83 : decode cX12_is 83 = .ok (.ireturn, 1) := by decide +kernel
theorem cw_X12_is_161 : CwV mi_X12_is mi_X12_good yX12_good RX12 161 0 := ⟨⟨w_1398, w_1400, w_46, w_108, w_1401⟩, ⟨by decide, by decide⟩, by decide +kernel, by decide, by decide⟩
theorem j_X12_is_B75 {l : Launch} {Γ : Am} {k39 : Nat → Nat → Int32 → Int32 → Hp → Option (Int32 × Hp)} (hL39 : ∀ (r0 : Nat) (q1 : Nat) (v2 : Int32) (v3 : Int32) (z : Hp), J l Γ mi_X12_is cvI 0 0 39 [(0, .ref (mB Γ + r0)), (1, .ref (mT Γ q1)), (2, .int v2), (3, .int v3)] [] z (k39 r0 q1 v2 v3 z)) : ∀ (r0 : Nat) (q1 : Nat) (v3 : Int32) (t0 : Int32) (z : Hp), J l Γ mi_X12_is cvI 0 0 75 [(0, .ref (mB Γ + r0)), (1, .ref (mT Γ q1)), (3, .int v3)] [.int t0] z (m_X12_is_B75 k39 r0 q1 v3 t0 z) := by
  intro r0 q1 v3 t0 z
  unfold m_X12_is_B75
  refine j_istore_n (pc := 75) (lv2 := [(2, .int t0), (0, .ref (mB Γ + r0)), (1, .ref (mT Γ q1)), (3, .int v3)]) dX12_is_75 rfl (by decide) rfl ?_
  refine j_iinc (pc := 76) (n0 := 3) (v0 := v3 + 1) (lv2 := [(3, .int (v3 + 1)), (2, .int t0), (0, .ref (mB Γ + r0)), (1, .ref (mT Γ q1))]) dX12_is_76 rfl rfl (by decide) rfl ?_
  refine j_goto (pc := 79) 39 dX12_is_79 (by decide) ?_
  exact J.sub [2, 3, 1, 0] rfl (hL39 r0 q1 t0 (v3 + 1) z)
theorem j_X12_is_L39 {l : Launch} {Γ : Am}   : ∀ (f : Nat), ∀ (r0 : Nat) (q1 : Nat) (v2 : Int32) (v3 : Int32) (z : Hp), J l Γ mi_X12_is cvI 0 0 39 [(0, .ref (mB Γ + r0)), (1, .ref (mT Γ q1)), (2, .int v2), (3, .int v3)] [] z (m_X12_is_L39  f r0 q1 v2 v3 z) := by
  intro f
  induction f with
  | zero => intro r0 q1 v2 v3 z; exact J.none
  | succ f hL39 =>
    intro r0 q1 v2 v3 z
    rw [m_X12_is_L39]
    refine j_iload_n (pc := 39) 3 dX12_is_39 rfl rfl ?_
    refine j_aload_n (pc := 40) 1 dX12_is_40 rfl rfl ?_
    refine j_strlen (pc := 41) w_1411 dX12_is_41 (by decide) (by decide) (Nat.le_of_ble_eq_true rfl) (fun x1 => ?_)
    refine j_icmp_ge (pc := 44) 82 dX12_is_44 (by decide) ?_ ?_
    · refine j_iload_n (pc := 82) 2 dX12_is_82 rfl rfl ?_
      exact j_zreturn (pc := 83) dX12_is_83 rfl
    refine j_iload_n (pc := 47) 2 dX12_is_47 rfl rfl ?_
    refine j_if_eq (pc := 48) 82 dX12_is_48 (by decide) ?_ ?_
    · refine j_iload_n (pc := 82) 2 dX12_is_82 rfl rfl ?_
      exact j_zreturn (pc := 83) dX12_is_83 rfl
    refine j_aload_n (pc := 51) 0 dX12_is_51 rfl rfl ?_
    refine j_getR (pc := 52) ok_X12 (by decide) rfl w_1243 dX12_is_52 (fun a2 => ?_)
    refine j_aload_n (pc := 55) 0 dX12_is_55 rfl rfl ?_
    refine j_getI (pc := 56) ok_X12 (by decide) rfl w_1248 dX12_is_56 (fun x3 => ?_)
    refine j_iload_n (pc := 59) 3 dX12_is_59 rfl rfl ?_
    refine j_iadd (pc := 60) dX12_is_60 ?_
    refine j_baload (pc := 61) dX12_is_61 (fun x4 => ?_)
    refine j_aload_n (pc := 62) 1 dX12_is_62 rfl rfl ?_
    refine j_iload_n (pc := 63) 3 dX12_is_63 rfl rfl ?_
    refine j_strchar (pc := 64) w_1412 dX12_is_64 (by decide) (by decide) (Nat.le_of_ble_eq_true rfl) (fun x5 => ?_)
    refine j_icmp_ne (pc := 67) 74 dX12_is_67 (by decide) ?_ ?_
    · refine j_iconst (pc := 74) (v := 0) dX12_is_74 (by decide) ?_
      exact J.sub [0, 1, 3] rfl ((j_X12_is_B75 hL39) r0 q1 v3 0 z)
    refine j_iconst (pc := 70) (v := 1) dX12_is_70 (by decide) ?_
    refine j_goto (pc := 71) 75 dX12_is_71 (by decide) ?_
    exact J.sub [0, 1, 3] rfl ((j_X12_is_B75 hL39) r0 q1 v3 1 z)
theorem j_X12_is_B36 {l : Launch} {Γ : Am}   : ∀ (r0 : Nat) (q1 : Nat) (t0 : Int32) (z : Hp), J l Γ mi_X12_is cvI 0 0 36 [(0, .ref (mB Γ + r0)), (1, .ref (mT Γ q1))] [.int t0] z (m_X12_is_B36  r0 q1 t0 z) := by
  intro r0 q1 t0 z
  unfold m_X12_is_B36
  refine j_istore_n (pc := 36) (lv2 := [(2, .int t0), (0, .ref (mB Γ + r0)), (1, .ref (mT Γ q1))]) dX12_is_36 rfl (by decide) rfl ?_
  refine j_iconst (pc := 37) (v := 0) dX12_is_37 (by decide) ?_
  refine j_istore_n (pc := 38) (lv2 := [(3, .int 0), (2, .int t0), (0, .ref (mB Γ + r0)), (1, .ref (mT Γ q1))]) dX12_is_38 rfl (by decide) rfl ?_
  exact J.sub [2, 3, 1, 0] rfl ((j_X12_is_L39 FU) r0 q1 t0 0 z)
theorem j_X12_is_B35 {l : Launch} {Γ : Am}   : ∀ (r0 : Nat) (q1 : Nat) (z : Hp), J l Γ mi_X12_is cvI 0 0 35 [(0, .ref (mB Γ + r0)), (1, .ref (mT Γ q1))] [] z (m_X12_is_B35  r0 q1 z) := by
  intro r0 q1 z
  unfold m_X12_is_B35
  refine j_iconst (pc := 35) (v := 0) dX12_is_35 (by decide) ?_
  exact J.sub [0, 1] rfl (j_X12_is_B36 r0 q1 0 z)
theorem ct_X12_is {l : Launch} {Γ : Am} (r0 : Nat) (q1 : Nat) (z : Hp) : Ct l Γ yX12_is mi_X12_is cvI [.ref (mB Γ + r0), .ref (mT Γ q1)] z (m_X12_is r0 q1 z) := by
  refine Ct.ofJ (by decide) ⟨rfl, rfl⟩ (Nat.le_of_ble_eq_true rfl) ?_
  unfold m_X12_is
  show J l Γ mi_X12_is cvI 0 0 0 [(0, .ref (mB Γ + r0)), (1, .ref (mT Γ q1))] [] z _
  refine j_aload_n (pc := 0) 0 dX12_is_0 rfl rfl ?_
  refine j_isC (fun h8 => ?_)
  refine j_callV_I (pc := 1) (as := []) (mc2 := 0) (ms2 := 0) (ct_X12_good _ _) h8 rfl cw_X12_is_161 dX12_is_1 (Nat.le_of_ble_eq_true rfl) rfl (by decide) (by decide) (fun x7 z6 => ?_)
  refine j_if_eq (pc := 4) 35 dX12_is_4 (by decide) ?_ ?_
  · exact J.sub [0, 1] rfl (j_X12_is_B35 r0 q1 z6)
  refine j_aload_n (pc := 7) 0 dX12_is_7 rfl rfl ?_
  refine j_getI (pc := 8) ok_X12 (by decide) rfl w_1249 dX12_is_8 (fun x9 => ?_)
  refine j_iconst (pc := 11) (v := 1) dX12_is_11 (by decide) ?_
  refine j_icmp_ne (pc := 12) 35 dX12_is_12 (by decide) ?_ ?_
  · exact J.sub [0, 1] rfl (j_X12_is_B35 r0 q1 z6)
  refine j_aload_n (pc := 15) 0 dX12_is_15 rfl rfl ?_
  refine j_getI (pc := 16) ok_X12 (by decide) rfl w_1247 dX12_is_16 (fun x10 => ?_)
  refine j_aload_n (pc := 19) 0 dX12_is_19 rfl rfl ?_
  refine j_getI (pc := 20) ok_X12 (by decide) rfl w_1248 dX12_is_20 (fun x11 => ?_)
  refine j_isub (pc := 23) dX12_is_23 ?_
  refine j_aload_n (pc := 24) 1 dX12_is_24 rfl rfl ?_
  refine j_strlen (pc := 25) w_1411 dX12_is_25 (by decide) (by decide) (Nat.le_of_ble_eq_true rfl) (fun x12 => ?_)
  refine j_icmp_ne (pc := 28) 35 dX12_is_28 (by decide) ?_ ?_
  · exact J.sub [0, 1] rfl (j_X12_is_B35 r0 q1 z6)
  refine j_iconst (pc := 31) (v := 1) dX12_is_31 (by decide) ?_
  refine j_goto (pc := 32) 36 dX12_is_32 (by decide) ?_
  exact J.sub [0, 1] rfl (j_X12_is_B36 r0 q1 1 z6)
theorem dX12_takes_0 : decode cX12_takes 0 = .ok (.aload_n 0, 1) := by decide +kernel
theorem dX12_takes_1 : decode cX12_takes 1 = .ok (.aload_n 1, 1) := by decide +kernel
theorem dX12_takes_2 : decode cX12_takes 2 = .ok (.invokevirtual 174, 3) := by decide +kernel
theorem dX12_takes_5 : decode cX12_takes 5 = .ok (.istore_n 2, 1) := by decide +kernel
theorem dX12_takes_6 : decode cX12_takes 6 = .ok (.iload_n 2, 1) := by decide +kernel
theorem dX12_takes_7 : decode cX12_takes 7 = .ok (.ifCond .eq 7, 3) := by decide +kernel
theorem dX12_takes_10 : decode cX12_takes 10 = .ok (.aload_n 0, 1) := by decide +kernel
theorem dX12_takes_11 : decode cX12_takes 11 = .ok (.invokevirtual 178, 3) := by decide +kernel
theorem dX12_takes_14 : decode cX12_takes 14 = .ok (.iload_n 2, 1) := by decide +kernel
theorem dX12_takes_15 : decode cX12_takes 15 = .ok (.ireturn, 1) := by decide +kernel
theorem cw_X12_takes_174 : CwV mi_X12_takes mi_X12_is yX12_is RX12 174 1 := ⟨⟨w_1407, w_1409, w_48, w_108, w_1410⟩, ⟨by decide, by decide⟩, by decide +kernel, by decide, by decide⟩
theorem cw_X12_takes_178 : CwV mi_X12_takes mi_X12_step yX12_step RX12 178 0 := ⟨⟨w_1384, w_1386, w_44, w_108, w_1387⟩, ⟨by decide, by decide⟩, by decide +kernel, by decide, by decide⟩
theorem ct_X12_takes {l : Launch} {Γ : Am} (r0 : Nat) (q1 : Nat) (z : Hp) : Ct l Γ yX12_takes mi_X12_takes cvI [.ref (mB Γ + r0), .ref (mT Γ q1)] z (m_X12_takes r0 q1 z) := by
  refine Ct.ofJ (by decide) ⟨rfl, rfl⟩ (Nat.le_of_ble_eq_true rfl) ?_
  unfold m_X12_takes
  show J l Γ mi_X12_takes cvI 0 0 0 [(0, .ref (mB Γ + r0)), (1, .ref (mT Γ q1))] [] z _
  refine j_aload_n (pc := 0) 0 dX12_takes_0 rfl rfl ?_
  refine j_aload_n (pc := 1) 1 dX12_takes_1 rfl rfl ?_
  refine j_isC (fun h3 => ?_)
  refine j_callV_I (pc := 2) (as := [.ref (mT Γ q1)]) (mc2 := 0) (ms2 := 0) (ct_X12_is _ _ _) h3 rfl cw_X12_takes_174 dX12_takes_2 (Nat.le_of_ble_eq_true rfl) rfl (by decide) (by decide) (fun x2 z1 => ?_)
  refine j_istore_n (pc := 5) (lv2 := [(2, .int x2), (0, .ref (mB Γ + r0)), (1, .ref (mT Γ q1))]) dX12_takes_5 rfl (by decide) rfl ?_
  refine j_iload_n (pc := 6) 0 dX12_takes_6 rfl rfl ?_
  refine j_if_eq (pc := 7) 14 dX12_takes_7 (by decide) ?_ ?_
  · refine j_iload_n (pc := 14) 0 dX12_takes_14 rfl rfl ?_
    exact j_zreturn (pc := 15) dX12_takes_15 rfl
  refine j_aload_n (pc := 10) 1 dX12_takes_10 rfl rfl ?_
  refine j_isC (fun h5 => ?_)
  refine j_callV_V (pc := 11) (as := []) (mc2 := 0) (ms2 := 0) (ct_X12_step _ _) h5 rfl cw_X12_takes_178 dX12_takes_11 (Nat.le_of_ble_eq_true rfl) rfl (by decide) (by decide) (fun _ z4 => ?_)
  refine j_iload_n (pc := 14) 0 dX12_takes_14 rfl rfl ?_
  exact j_zreturn (pc := 15) dX12_takes_15 rfl
theorem dX12_needs_0 : decode cX12_needs 0 = .ok (.aload_n 0, 1) := by decide +kernel
theorem dX12_needs_1 : decode cX12_needs 1 = .ok (.aload_n 1, 1) := by decide +kernel
theorem dX12_needs_2 : decode cX12_needs 2 = .ok (.invokevirtual 181, 3) := by decide +kernel
theorem dX12_needs_5 : decode cX12_needs 5 = .ok (.ifCond .ne 8, 3) := by decide +kernel
theorem dX12_needs_8 : decode cX12_needs 8 = .ok (.aload_n 0, 1) := by decide +kernel
theorem dX12_needs_9 : decode cX12_needs 9 = .ok (.iconst 1, 1) := by decide +kernel
theorem dX12_needs_10 : decode cX12_needs 10 = .ok (.invokevirtual 184, 3) := by decide +kernel
theorem dX12_needs_13 : decode cX12_needs 13 = .ok (.return_, 1) := by decide +kernel
theorem cw_X12_needs_181 : CwV mi_X12_needs mi_X12_takes yX12_takes RX12 181 1 := ⟨⟨w_1425, w_1427, w_50, w_108, w_1428⟩, ⟨by decide, by decide⟩, by decide +kernel, by decide, by decide⟩
theorem cw_X12_needs_184 : CwV mi_X12_needs mi_X12_wrong yX12_wrong RX12 184 1 := ⟨⟨w_1421, w_1423, w_49, w_108, w_1424⟩, ⟨by decide, by decide⟩, by decide +kernel, by decide, by decide⟩
theorem ct_X12_needs {l : Launch} {Γ : Am} (r0 : Nat) (q1 : Nat) (z : Hp) : Ct l Γ yX12_needs mi_X12_needs cvV [.ref (mB Γ + r0), .ref (mT Γ q1)] z (m_X12_needs r0 q1 z) := by
  refine Ct.ofJ (by decide) ⟨rfl, rfl⟩ (Nat.le_of_ble_eq_true rfl) ?_
  unfold m_X12_needs
  show J l Γ mi_X12_needs cvV 0 0 0 [(0, .ref (mB Γ + r0)), (1, .ref (mT Γ q1))] [] z _
  refine j_aload_n (pc := 0) 0 dX12_needs_0 rfl rfl ?_
  refine j_aload_n (pc := 1) 1 dX12_needs_1 rfl rfl ?_
  refine j_isC (fun h3 => ?_)
  refine j_callV_I (pc := 2) (as := [.ref (mT Γ q1)]) (mc2 := 0) (ms2 := 0) (ct_X12_takes _ _ _) h3 rfl cw_X12_needs_181 dX12_needs_2 (Nat.le_of_ble_eq_true rfl) rfl (by decide) (by decide) (fun x2 z1 => ?_)
  refine j_if_ne (pc := 5) 13 dX12_needs_5 (by decide) ?_ ?_
  · exact j_return (pc := 13) dX12_needs_13 rfl
  refine j_aload_n (pc := 8) 0 dX12_needs_8 rfl rfl ?_
  refine j_iconst (pc := 9) (v := 1) dX12_needs_9 (by decide) ?_
  refine j_isC (fun h5 => ?_)
  refine j_callV_V (pc := 10) (as := [.int 1]) (mc2 := 0) (ms2 := 0) (ct_X12_wrong _ _ _) h5 rfl cw_X12_needs_184 dX12_needs_10 (Nat.le_of_ble_eq_true rfl) rfl (by decide) (by decide) (fun _ z4 => ?_)
  exact j_return (pc := 13) dX12_needs_13 rfl
theorem dX12_isSign_0 : decode cX12_isSign 0 = .ok (.aload_n 0, 1) := by decide +kernel
theorem dX12_isSign_1 : decode cX12_isSign 1 = .ok (.invokevirtual 161, 3) := by decide +kernel
theorem dX12_isSign_4 : decode cX12_isSign 4 = .ok (.ifCond .eq 23, 3) := by decide +kernel
theorem dX12_isSign_7 : decode cX12_isSign 7 = .ok (.aload_n 0, 1) := by decide +kernel
theorem dX12_isSign_8 : decode cX12_isSign 8 = .ok (.getfield 138, 3) := by decide +kernel
theorem dX12_isSign_11 : decode cX12_isSign 11 = .ok (.iconst 3, 1) := by decide +kernel
theorem dX12_isSign_12 : decode cX12_isSign 12 = .ok (.if_icmp .ne 15, 3) := by decide +kernel
theorem dX12_isSign_15 : decode cX12_isSign 15 = .ok (.aload_n 0, 1) := by decide +kernel
theorem dX12_isSign_16 : decode cX12_isSign 16 = .ok (.getfield 149, 3) := by decide +kernel
theorem dX12_isSign_19 : decode cX12_isSign 19 = .ok (.iload_n 1, 1) := by decide +kernel
theorem dX12_isSign_20 : decode cX12_isSign 20 = .ok (.if_icmp .ne 7, 3) := by decide +kernel
theorem dX12_isSign_23 : decode cX12_isSign 23 = .ok (.iconst 1, 1) := by decide +kernel
theorem dX12_isSign_24 : decode cX12_isSign 24 = .ok (.goto 4, 3) := by decide +kernel
theorem dX12_isSign_27 : decode cX12_isSign 27 = .ok (.iconst 0, 1) := by decide +kernel
theorem dX12_isSign_28 : decode cX12_isSign 28 = .ok (.ireturn, 1) := by decide +kernel
theorem cw_X12_isSign_161 : CwV mi_X12_isSign mi_X12_good yX12_good RX12 161 0 := ⟨⟨w_1398, w_1400, w_46, w_108, w_1401⟩, ⟨by decide, by decide⟩, by decide +kernel, by decide, by decide⟩
theorem ct_X12_isSign {l : Launch} {Γ : Am} (r0 : Nat) (v1 : Int32) (z : Hp) : Ct l Γ yX12_isSign mi_X12_isSign cvI [.ref (mB Γ + r0), .int v1] z (m_X12_isSign r0 v1 z) := by
  refine Ct.ofJ (by decide) ⟨rfl, rfl⟩ (Nat.le_of_ble_eq_true rfl) ?_
  unfold m_X12_isSign
  show J l Γ mi_X12_isSign cvI 0 0 0 [(0, .ref (mB Γ + r0)), (1, .int v1)] [] z _
  refine j_aload_n (pc := 0) 0 dX12_isSign_0 rfl rfl ?_
  refine j_isC (fun h3 => ?_)
  refine j_callV_I (pc := 1) (as := []) (mc2 := 0) (ms2 := 0) (ct_X12_good _ _) h3 rfl cw_X12_isSign_161 dX12_isSign_1 (Nat.le_of_ble_eq_true rfl) rfl (by decide) (by decide) (fun x2 z1 => ?_)
  refine j_if_eq (pc := 4) 27 dX12_isSign_4 (by decide) ?_ ?_
  · refine j_iconst (pc := 27) (v := 0) dX12_isSign_27 (by decide) ?_
    exact j_ireturn (pc := 28) dX12_isSign_28 rfl rfl
  refine j_aload_n (pc := 7) 0 dX12_isSign_7 rfl rfl ?_
  refine j_getI (pc := 8) ok_X12 (by decide) rfl w_1249 dX12_isSign_8 (fun x4 => ?_)
  refine j_iconst (pc := 11) (v := 3) dX12_isSign_11 (by decide) ?_
  refine j_icmp_ne (pc := 12) 27 dX12_isSign_12 (by decide) ?_ ?_
  · refine j_iconst (pc := 27) (v := 0) dX12_isSign_27 (by decide) ?_
    exact j_ireturn (pc := 28) dX12_isSign_28 rfl rfl
  refine j_aload_n (pc := 15) 0 dX12_isSign_15 rfl rfl ?_
  refine j_getI (pc := 16) ok_X12 (by decide) rfl w_1250 dX12_isSign_16 (fun x5 => ?_)
  refine j_iload_n (pc := 19) 1 dX12_isSign_19 rfl rfl ?_
  refine j_icmp_ne (pc := 20) 27 dX12_isSign_20 (by decide) ?_ ?_
  · refine j_iconst (pc := 27) (v := 0) dX12_isSign_27 (by decide) ?_
    exact j_ireturn (pc := 28) dX12_isSign_28 rfl rfl
  refine j_iconst (pc := 23) (v := 1) dX12_isSign_23 (by decide) ?_
  refine j_goto (pc := 24) 28 dX12_isSign_24 (by decide) ?_
  exact j_ireturn (pc := 28) dX12_isSign_28 rfl rfl
theorem dX12_number_0 : decode cX12_number 0 = .ok (.aload_n 0, 1) := by decide +kernel
theorem dX12_number_1 : decode cX12_number 1 = .ok (.invokevirtual 161, 3) := by decide +kernel
theorem dX12_number_4 : decode cX12_number 4 = .ok (.ifCond .eq 16, 3) := by decide +kernel
theorem dX12_number_7 : decode cX12_number 7 = .ok (.aload_n 0, 1) := by decide +kernel
theorem dX12_number_8 : decode cX12_number 8 = .ok (.getfield 138, 3) := by decide +kernel
theorem dX12_number_11 : decode cX12_number 11 = .ok (.iconst 2, 1) := by decide +kernel
theorem dX12_number_12 : decode cX12_number 12 = .ok (.if_icmp .eq 8, 3) := by decide +kernel
theorem dX12_number_15 : decode cX12_number 15 = .ok (.aload_n 0, 1) := by decide +kernel
theorem dX12_number_16 : decode cX12_number 16 = .ok (.iconst 1, 1) := by decide +kernel
theorem dX12_number_17 : decode cX12_number 17 = .ok (.invokevirtual 184, 3) := by decide +kernel
theorem dX12_number_20 : decode cX12_number 20 = .ok (.aload_n 0, 1) := by decide +kernel
theorem dX12_number_21 : decode cX12_number 21 = .ok (.invokevirtual 161, 3) := by decide +kernel
theorem dX12_number_24 : decode cX12_number 24 = .ok (.ifCond .eq 23, 3) := by decide +kernel
theorem dX12_number_27 : decode cX12_number 27 = .ok (.aload_n 0, 1) := by decide +kernel
theorem dX12_number_28 : decode cX12_number 28 = .ok (.getfield 149, 3) := by decide +kernel
theorem dX12_number_31 : decode cX12_number 31 = .ok (.i2l, 1) := by decide +kernel
theorem dX12_number_32 : decode cX12_number 32 = .ok (.iload_n 1, 1) := by decide +kernel
theorem dX12_number_33 : decode cX12_number 33 = .ok (.i2l, 1) := by decide +kernel
theorem dX12_number_34 : decode cX12_number 34 = .ok (.iload_n 2, 1) := by decide +kernel
theorem dX12_number_35 : decode cX12_number 35 = .ok (.i2l, 1) := by decide +kernel
theorem dX12_number_36 : decode cX12_number 36 = .ok (.invokestatic 110, 3) := by decide +kernel
theorem dX12_number_39 : decode cX12_number 39 = .ok (.ifCond .ne 8, 3) := by decide +kernel
theorem dX12_number_42 : decode cX12_number 42 = .ok (.aload_n 0, 1) := by decide +kernel
theorem dX12_number_43 : decode cX12_number 43 = .ok (.iconst 2, 1) := by decide +kernel
theorem dX12_number_44 : decode cX12_number 44 = .ok (.invokevirtual 184, 3) := by decide +kernel
theorem dX12_number_47 : decode cX12_number 47 = .ok (.aload_n 0, 1) := by decide +kernel
theorem dX12_number_48 : decode cX12_number 48 = .ok (.invokevirtual 161, 3) := by decide +kernel
theorem dX12_number_51 : decode cX12_number 51 = .ok (.ifCond .ne 5, 3) := by decide +kernel
theorem dX12_number_54 : decode cX12_number 54 = .ok (.iconst 0, 1) := by decide +kernel
theorem dX12_number_55 : decode cX12_number 55 = .ok (.ireturn, 1) := by decide +kernel
theorem dX12_number_56 : decode cX12_number 56 = .ok (.aload_n 0, 1) := by decide +kernel
theorem dX12_number_57 : decode cX12_number 57 = .ok (.getfield 149, 3) := by decide +kernel
theorem dX12_number_60 : decode cX12_number 60 = .ok (.istore_n 3, 1) := by decide +kernel
theorem dX12_number_61 : decode cX12_number 61 = .ok (.aload_n 0, 1) := by decide +kernel
theorem dX12_number_62 : decode cX12_number 62 = .ok (.invokevirtual 178, 3) := by decide +kernel
theorem dX12_number_65 : decode cX12_number 65 = .ok (.iload_n 3, 1) := by decide +kernel
theorem dX12_number_66 : decode cX12_number 66 = .ok (.ireturn, 1) := by decide +kernel
theorem cw_X12_number_161 : CwV mi_X12_number mi_X12_good yX12_good RX12 161 0 := ⟨⟨w_1398, w_1400, w_46, w_108, w_1401⟩, ⟨by decide, by decide⟩, by decide +kernel, by decide, by decide⟩
theorem cw_X12_number_178 : CwV mi_X12_number mi_X12_step yX12_step RX12 178 0 := ⟨⟨w_1384, w_1386, w_44, w_108, w_1387⟩, ⟨by decide, by decide⟩, by decide +kernel, by decide, by decide⟩
theorem cw_X12_number_110 : CwS mi_X12_number mi_X12_in yX12_in 110 3 := ⟨⟨w_1365, w_1366, w_108, w_1367⟩, ⟨by decide, by decide⟩, by decide +kernel, by decide, by decide⟩
theorem cw_X12_number_184 : CwV mi_X12_number mi_X12_wrong yX12_wrong RX12 184 1 := ⟨⟨w_1421, w_1423, w_49, w_108, w_1424⟩, ⟨by decide, by decide⟩, by decide +kernel, by decide, by decide⟩
theorem j_X12_number_B47 {l : Launch} {Γ : Am}   : ∀ (r0 : Nat) (z : Hp), J l Γ mi_X12_number cvI 0 0 47 [(0, .ref (mB Γ + r0))] [] z (m_X12_number_B47  r0 z) := by
  intro r0 z
  unfold m_X12_number_B47
  refine j_aload_n (pc := 47) 0 dX12_number_47 rfl rfl ?_
  refine j_isC (fun h3 => ?_)
  refine j_callV_I (pc := 48) (as := []) (mc2 := 0) (ms2 := 0) (ct_X12_good _ _) h3 rfl cw_X12_number_161 dX12_number_48 (Nat.le_of_ble_eq_true rfl) rfl (by decide) (by decide) (fun x2 z1 => ?_)
  refine j_if_ne (pc := 51) 56 dX12_number_51 (by decide) ?_ ?_
  · refine j_aload_n (pc := 56) 0 dX12_number_56 rfl rfl ?_
    refine j_getI (pc := 57) ok_X12 (by decide) rfl w_1250 dX12_number_57 (fun x4 => ?_)
    refine j_istore_n (pc := 60) (lv2 := [(3, .int x4), (0, .ref (mB Γ + r0))]) dX12_number_60 rfl (by decide) rfl ?_
    refine j_aload_n (pc := 61) 1 dX12_number_61 rfl rfl ?_
    refine j_isC (fun h6 => ?_)
    refine j_callV_V (pc := 62) (as := []) (mc2 := 0) (ms2 := 0) (ct_X12_step _ _) h6 rfl cw_X12_number_178 dX12_number_62 (Nat.le_of_ble_eq_true rfl) rfl (by decide) (by decide) (fun _ z5 => ?_)
    refine j_iload_n (pc := 65) 0 dX12_number_65 rfl rfl ?_
    exact j_ireturn (pc := 66) dX12_number_66 rfl rfl
  refine j_iconst (pc := 54) (v := 0) dX12_number_54 (by decide) ?_
  exact j_ireturn (pc := 55) dX12_number_55 rfl rfl
theorem j_X12_number_B20 {l : Launch} {Γ : Am}   : ∀ (r0 : Nat) (v1 : Int32) (v2 : Int32) (z : Hp), J l Γ mi_X12_number cvI 0 0 20 [(0, .ref (mB Γ + r0)), (1, .int v1), (2, .int v2)] [] z (m_X12_number_B20  r0 v1 v2 z) := by
  intro r0 v1 v2 z
  unfold m_X12_number_B20
  refine j_aload_n (pc := 20) 0 dX12_number_20 rfl rfl ?_
  refine j_isC (fun h9 => ?_)
  refine j_callV_I (pc := 21) (as := []) (mc2 := 0) (ms2 := 0) (ct_X12_good _ _) h9 rfl cw_X12_number_161 dX12_number_21 (Nat.le_of_ble_eq_true rfl) rfl (by decide) (by decide) (fun x8 z7 => ?_)
  refine j_if_eq (pc := 24) 47 dX12_number_24 (by decide) ?_ ?_
  · exact J.sub [0] rfl (j_X12_number_B47 r0 z7)
  refine j_aload_n (pc := 27) 0 dX12_number_27 rfl rfl ?_
  refine j_getI (pc := 28) ok_X12 (by decide) rfl w_1250 dX12_number_28 (fun x10 => ?_)
  refine j_i2l (pc := 31) dX12_number_31 ?_
  refine j_iload_n (pc := 32) 1 dX12_number_32 rfl rfl ?_
  refine j_i2l (pc := 33) dX12_number_33 ?_
  refine j_iload_n (pc := 34) 2 dX12_number_34 rfl rfl ?_
  refine j_i2l (pc := 35) dX12_number_35 ?_
  refine j_callS_I (pc := 36) (as := [.long (Int32.toInt64 x10), .long (Int32.toInt64 v1), .long (Int32.toInt64 v2)]) (mc2 := 0) (ms2 := 0) (ct_X12_in _ _ _ _) cw_X12_number_110 dX12_number_36 (Nat.le_of_ble_eq_true rfl) rfl (by decide) (by decide) (fun x12 z11 => ?_)
  refine j_if_ne (pc := 39) 47 dX12_number_39 (by decide) ?_ ?_
  · exact J.sub [0] rfl (j_X12_number_B47 r0 z11)
  refine j_aload_n (pc := 42) 0 dX12_number_42 rfl rfl ?_
  refine j_iconst (pc := 43) (v := 2) dX12_number_43 (by decide) ?_
  refine j_isC (fun h14 => ?_)
  refine j_callV_V (pc := 44) (as := [.int 2]) (mc2 := 0) (ms2 := 0) (ct_X12_wrong _ _ _) h14 rfl cw_X12_number_184 dX12_number_44 (Nat.le_of_ble_eq_true rfl) rfl (by decide) (by decide) (fun _ z13 => ?_)
  exact J.sub [0] rfl (j_X12_number_B47 r0 z13)
theorem ct_X12_number {l : Launch} {Γ : Am} (r0 : Nat) (v1 : Int32) (v2 : Int32) (z : Hp) : Ct l Γ yX12_number mi_X12_number cvI [.ref (mB Γ + r0), .int v1, .int v2] z (m_X12_number r0 v1 v2 z) := by
  refine Ct.ofJ (by decide) ⟨rfl, rfl⟩ (Nat.le_of_ble_eq_true rfl) ?_
  unfold m_X12_number
  show J l Γ mi_X12_number cvI 0 0 0 [(0, .ref (mB Γ + r0)), (1, .int v1), (2, .int v2)] [] z _
  refine j_aload_n (pc := 0) 0 dX12_number_0 rfl rfl ?_
  refine j_isC (fun h17 => ?_)
  refine j_callV_I (pc := 1) (as := []) (mc2 := 0) (ms2 := 0) (ct_X12_good _ _) h17 rfl cw_X12_number_161 dX12_number_1 (Nat.le_of_ble_eq_true rfl) rfl (by decide) (by decide) (fun x16 z15 => ?_)
  refine j_if_eq (pc := 4) 20 dX12_number_4 (by decide) ?_ ?_
  · exact J.sub [0, 1, 2] rfl (j_X12_number_B20 r0 v1 v2 z15)
  refine j_aload_n (pc := 7) 0 dX12_number_7 rfl rfl ?_
  refine j_getI (pc := 8) ok_X12 (by decide) rfl w_1249 dX12_number_8 (fun x18 => ?_)
  refine j_iconst (pc := 11) (v := 2) dX12_number_11 (by decide) ?_
  refine j_icmp_eq (pc := 12) 20 dX12_number_12 (by decide) ?_ ?_
  · exact J.sub [0, 1, 2] rfl (j_X12_number_B20 r0 v1 v2 z15)
  refine j_aload_n (pc := 15) 0 dX12_number_15 rfl rfl ?_
  refine j_iconst (pc := 16) (v := 1) dX12_number_16 (by decide) ?_
  refine j_isC (fun h20 => ?_)
  refine j_callV_V (pc := 17) (as := [.int 1]) (mc2 := 0) (ms2 := 0) (ct_X12_wrong _ _ _) h20 rfl cw_X12_number_184 dX12_number_17 (Nat.le_of_ble_eq_true rfl) rfl (by decide) (by decide) (fun _ z19 => ?_)
  exact J.sub [0, 1, 2] rfl (j_X12_number_B20 r0 v1 v2 z19)
theorem dX12_told_0 : decode cX12_told 0 = .ok (.aload_n 0, 1) := by decide +kernel
theorem dX12_told_1 : decode cX12_told 1 = .ok (.aload_n 1, 1) := by decide +kernel
theorem dX12_told_2 : decode cX12_told 2 = .ok (.invokevirtual 188, 3) := by decide +kernel
theorem dX12_told_5 : decode cX12_told 5 = .ok (.aload_n 0, 1) := by decide +kernel
theorem dX12_told_6 : decode cX12_told 6 = .ok (.iload_n 2, 1) := by decide +kernel
theorem dX12_told_7 : decode cX12_told 7 = .ok (.iload_n 3, 1) := by decide +kernel
theorem dX12_told_8 : decode cX12_told 8 = .ok (.invokevirtual 192, 3) := by decide +kernel
theorem dX12_told_11 : decode cX12_told 11 = .ok (.ireturn, 1) := by decide +kernel
theorem cw_X12_told_188 : CwV mi_X12_told mi_X12_needs yX12_needs RX12 188 1 := ⟨⟨w_1443, w_1445, w_54, w_108, w_1446⟩, ⟨by decide, by decide⟩, by decide +kernel, by decide, by decide⟩
theorem cw_X12_told_192 : CwV mi_X12_told mi_X12_number yX12_number RX12 192 2 := ⟨⟨w_1434, w_1436, w_52, w_108, w_1437⟩, ⟨by decide, by decide⟩, by decide +kernel, by decide, by decide⟩
theorem ct_X12_told {l : Launch} {Γ : Am} (r0 : Nat) (q1 : Nat) (v2 : Int32) (v3 : Int32) (z : Hp) : Ct l Γ yX12_told mi_X12_told cvI [.ref (mB Γ + r0), .ref (mT Γ q1), .int v2, .int v3] z (m_X12_told r0 q1 v2 v3 z) := by
  refine Ct.ofJ (by decide) ⟨rfl, rfl⟩ (Nat.le_of_ble_eq_true rfl) ?_
  unfold m_X12_told
  show J l Γ mi_X12_told cvI 0 0 0 [(0, .ref (mB Γ + r0)), (1, .ref (mT Γ q1)), (2, .int v2), (3, .int v3)] [] z _
  refine j_aload_n (pc := 0) 0 dX12_told_0 rfl rfl ?_
  refine j_aload_n (pc := 1) 1 dX12_told_1 rfl rfl ?_
  refine j_isC (fun h2 => ?_)
  refine j_callV_V (pc := 2) (as := [.ref (mT Γ q1)]) (mc2 := 0) (ms2 := 0) (ct_X12_needs _ _ _) h2 rfl cw_X12_told_188 dX12_told_2 (Nat.le_of_ble_eq_true rfl) rfl (by decide) (by decide) (fun _ z1 => ?_)
  refine j_aload_n (pc := 5) 0 dX12_told_5 rfl rfl ?_
  refine j_iload_n (pc := 6) 2 dX12_told_6 rfl rfl ?_
  refine j_iload_n (pc := 7) 3 dX12_told_7 rfl rfl ?_
  refine j_isC (fun h5 => ?_)
  refine j_callV_I (pc := 8) (as := [.int v2, .int v3]) (mc2 := 0) (ms2 := 0) (ct_X12_number _ _ _ _) h5 rfl cw_X12_told_192 dX12_told_8 (Nat.le_of_ble_eq_true rfl) rfl (by decide) (by decide) (fun x4 z3 => ?_)
  exact j_ireturn (pc := 11) dX12_told_11 rfl rfl
theorem dX12_below_0 : decode cX12_below 0 = .ok (.aload_n 0, 1) := by decide +kernel
theorem dX12_below_1 : decode cX12_below 1 = .ok (.aload_n 1, 1) := by decide +kernel
theorem dX12_below_2 : decode cX12_below 2 = .ok (.invokevirtual 188, 3) := by decide +kernel
theorem dX12_below_5 : decode cX12_below 5 = .ok (.aload_n 0, 1) := by decide +kernel
theorem dX12_below_6 : decode cX12_below 6 = .ok (.bipush 45, 2) := by decide +kernel
theorem dX12_below_8 : decode cX12_below 8 = .ok (.invokevirtual 195, 3) := by decide +kernel
theorem dX12_below_11 : decode cX12_below 11 = .ok (.istore_n 3, 1) := by decide +kernel
theorem dX12_below_12 : decode cX12_below 12 = .ok (.iload_n 3, 1) := by decide +kernel
theorem dX12_below_13 : decode cX12_below 13 = .ok (.ifCond .eq 7, 3) := by decide +kernel
theorem dX12_below_16 : decode cX12_below 16 = .ok (.aload_n 0, 1) := by decide +kernel
theorem dX12_below_17 : decode cX12_below 17 = .ok (.invokevirtual 178, 3) := by decide +kernel
theorem dX12_below_20 : decode cX12_below 20 = .ok (.iload_n 3, 1) := by decide +kernel
theorem dX12_below_21 : decode cX12_below 21 = .ok (.ifCond .eq 14, 3) := by decide +kernel
theorem dX12_below_24 : decode cX12_below 24 = .ok (.aload_n 0, 1) := by decide +kernel
theorem dX12_below_25 : decode cX12_below 25 = .ok (.iconst 0, 1) := by decide +kernel
theorem dX12_below_26 : decode cX12_below 26 = .ok (.iload_n 2, 1) := by decide +kernel
theorem dX12_below_27 : decode cX12_below 27 = .ok (.ineg, 1) := by decide +kernel
theorem dX12_below_28 : decode cX12_below 28 = .ok (.invokevirtual 192, 3) := by decide +kernel
theorem dX12_below_31 : decode cX12_below 31 = .ok (.ineg, 1) := by decide +kernel
theorem dX12_below_32 : decode cX12_below 32 = .ok (.goto 9, 3) := by decide +kernel
theorem dX12_below_35 : decode cX12_below 35 = .ok (.aload_n 0, 1) := by decide +kernel
theorem dX12_below_36 : decode cX12_below 36 = .ok (.iconst 0, 1) := by decide +kernel
theorem dX12_below_37 : decode cX12_below 37 = .ok (.iconst 0, 1) := by decide +kernel
theorem dX12_below_38 : decode cX12_below 38 = .ok (.invokevirtual 192, 3) := by decide +kernel
theorem dX12_below_41 : decode cX12_below 41 = .ok (.ireturn, 1) := by decide +kernel
theorem cw_X12_below_192 : CwV mi_X12_below mi_X12_number yX12_number RX12 192 2 := ⟨⟨w_1434, w_1436, w_52, w_108, w_1437⟩, ⟨by decide, by decide⟩, by decide +kernel, by decide, by decide⟩
theorem cw_X12_below_188 : CwV mi_X12_below mi_X12_needs yX12_needs RX12 188 1 := ⟨⟨w_1443, w_1445, w_54, w_108, w_1446⟩, ⟨by decide, by decide⟩, by decide +kernel, by decide, by decide⟩
theorem cw_X12_below_195 : CwV mi_X12_below mi_X12_isSign yX12_isSign RX12 195 1 := ⟨⟨w_1454, w_1456, w_56, w_108, w_1457⟩, ⟨by decide, by decide⟩, by decide +kernel, by decide, by decide⟩
theorem cw_X12_below_178 : CwV mi_X12_below mi_X12_step yX12_step RX12 178 0 := ⟨⟨w_1384, w_1386, w_44, w_108, w_1387⟩, ⟨by decide, by decide⟩, by decide +kernel, by decide, by decide⟩
theorem j_X12_below_B20 {l : Launch} {Γ : Am}   : ∀ (r0 : Nat) (v2 : Int32) (v3 : Int32) (z : Hp), J l Γ mi_X12_below cvI 0 0 20 [(0, .ref (mB Γ + r0)), (2, .int v2), (3, .int v3)] [] z (m_X12_below_B20  r0 v2 v3 z) := by
  intro r0 v2 v3 z
  unfold m_X12_below_B20
  refine j_iload_n (pc := 20) 2 dX12_below_20 rfl rfl ?_
  refine j_if_eq (pc := 21) 35 dX12_below_21 (by decide) ?_ ?_
  · refine j_aload_n (pc := 35) 0 dX12_below_35 rfl rfl ?_
    refine j_iconst (pc := 36) (v := 0) dX12_below_36 (by decide) ?_
    refine j_iconst (pc := 37) (v := 0) dX12_below_37 (by decide) ?_
    refine j_isC (fun h3 => ?_)
    refine j_callV_I (pc := 38) (as := [.int 0, .int 0]) (mc2 := 0) (ms2 := 0) (ct_X12_number _ _ _ _) h3 rfl cw_X12_below_192 dX12_below_38 (Nat.le_of_ble_eq_true rfl) rfl (by decide) (by decide) (fun x2 z1 => ?_)
    exact j_ireturn (pc := 41) dX12_below_41 rfl rfl
  refine j_aload_n (pc := 24) 0 dX12_below_24 rfl rfl ?_
  refine j_iconst (pc := 25) (v := 0) dX12_below_25 (by decide) ?_
  refine j_iload_n (pc := 26) 1 dX12_below_26 rfl rfl ?_
  refine j_ineg (pc := 27) dX12_below_27 ?_
  refine j_isC (fun h6 => ?_)
  refine j_callV_I (pc := 28) (as := [.int 0, .int (-v2)]) (mc2 := 0) (ms2 := 0) (ct_X12_number _ _ _ _) h6 rfl cw_X12_below_192 dX12_below_28 (Nat.le_of_ble_eq_true rfl) rfl (by decide) (by decide) (fun x5 z4 => ?_)
  refine j_ineg (pc := 31) dX12_below_31 ?_
  refine j_goto (pc := 32) 41 dX12_below_32 (by decide) ?_
  exact j_ireturn (pc := 41) dX12_below_41 rfl rfl
theorem ct_X12_below {l : Launch} {Γ : Am} (r0 : Nat) (q1 : Nat) (v2 : Int32) (z : Hp) : Ct l Γ yX12_below mi_X12_below cvI [.ref (mB Γ + r0), .ref (mT Γ q1), .int v2] z (m_X12_below r0 q1 v2 z) := by
  refine Ct.ofJ (by decide) ⟨rfl, rfl⟩ (Nat.le_of_ble_eq_true rfl) ?_
  unfold m_X12_below
  show J l Γ mi_X12_below cvI 0 0 0 [(0, .ref (mB Γ + r0)), (1, .ref (mT Γ q1)), (2, .int v2)] [] z _
  refine j_aload_n (pc := 0) 0 dX12_below_0 rfl rfl ?_
  refine j_aload_n (pc := 1) 1 dX12_below_1 rfl rfl ?_
  refine j_isC (fun h8 => ?_)
  refine j_callV_V (pc := 2) (as := [.ref (mT Γ q1)]) (mc2 := 0) (ms2 := 0) (ct_X12_needs _ _ _) h8 rfl cw_X12_below_188 dX12_below_2 (Nat.le_of_ble_eq_true rfl) rfl (by decide) (by decide) (fun _ z7 => ?_)
  refine j_aload_n (pc := 5) 0 dX12_below_5 rfl rfl ?_
  refine j_bipush (pc := 6) (v := 45) dX12_below_6 (by decide) ?_
  refine j_isC (fun h11 => ?_)
  refine j_callV_I (pc := 8) (as := [.int 45]) (mc2 := 0) (ms2 := 0) (ct_X12_isSign _ _ _) h11 rfl cw_X12_below_195 dX12_below_8 (Nat.le_of_ble_eq_true rfl) rfl (by decide) (by decide) (fun x10 z9 => ?_)
  refine j_istore_n (pc := 11) (lv2 := [(3, .int x10), (0, .ref (mB Γ + r0)), (1, .ref (mT Γ q1)), (2, .int v2)]) dX12_below_11 rfl (by decide) rfl ?_
  refine j_iload_n (pc := 12) 0 dX12_below_12 rfl rfl ?_
  refine j_if_eq (pc := 13) 20 dX12_below_13 (by decide) ?_ ?_
  · exact J.sub [1, 3, 0] rfl (j_X12_below_B20 r0 v2 x10 z9)
  refine j_aload_n (pc := 16) 1 dX12_below_16 rfl rfl ?_
  refine j_isC (fun h13 => ?_)
  refine j_callV_V (pc := 17) (as := []) (mc2 := 0) (ms2 := 0) (ct_X12_step _ _) h13 rfl cw_X12_below_178 dX12_below_17 (Nat.le_of_ble_eq_true rfl) rfl (by decide) (by decide) (fun _ z12 => ?_)
  exact J.sub [1, 3, 0] rfl (j_X12_below_B20 r0 v2 x10 z12)
theorem dX12_readGround_0 : decode cX12_readGround 0 = .ok (.aload_n 0, 1) := by decide +kernel
theorem dX12_readGround_1 : decode cX12_readGround 1 = .ok (.invokevirtual 161, 3) := by decide +kernel
theorem dX12_readGround_4 : decode cX12_readGround 4 = .ok (.ifCond .eq 43, 3) := by decide +kernel
theorem dX12_readGround_7 : decode cX12_readGround 7 = .ok (.aload_n 0, 1) := by decide +kernel
theorem dX12_readGround_8 : decode cX12_readGround 8 = .ok (.getfield 138, 3) := by decide +kernel
theorem dX12_readGround_11 : decode cX12_readGround 11 = .ok (.iconst 2, 1) := by decide +kernel
theorem dX12_readGround_12 : decode cX12_readGround 12 = .ok (.if_icmp .ne 35, 3) := by decide +kernel
theorem dX12_readGround_15 : decode cX12_readGround 15 = .ok (.aload_n 0, 1) := by decide +kernel
theorem dX12_readGround_16 : decode cX12_readGround 16 = .ok (.getfield 149, 3) := by decide +kernel
theorem dX12_readGround_19 : decode cX12_readGround 19 = .ok (.i2l, 1) := by decide +kernel
theorem dX12_readGround_20 : decode cX12_readGround 20 = .ok (.lconst 0, 1) := by decide +kernel
theorem dX12_readGround_21 : decode cX12_readGround 21 = .ok (.ldc2_w 198, 3) := by decide +kernel
theorem dX12_readGround_24 : decode cX12_readGround 24 = .ok (.invokestatic 110, 3) := by decide +kernel
theorem dX12_readGround_27 : decode cX12_readGround 27 = .ok (.ifCond .eq 20, 3) := by decide +kernel
theorem dX12_readGround_30 : decode cX12_readGround 30 = .ok (.aload_n 0, 1) := by decide +kernel
theorem dX12_readGround_31 : decode cX12_readGround 31 = .ok (.getfield 40, 3) := by decide +kernel
theorem dX12_readGround_34 : decode cX12_readGround 34 = .ok (.aload_n 0, 1) := by decide +kernel
theorem dX12_readGround_35 : decode cX12_readGround 35 = .ok (.getfield 149, 3) := by decide +kernel
theorem dX12_readGround_38 : decode cX12_readGround 38 = .ok (.baload, 1) := by decide +kernel
theorem dX12_readGround_39 : decode cX12_readGround 39 = .ok (.ifCond .eq 8, 3) := by decide +kernel
theorem dX12_readGround_42 : decode cX12_readGround 42 = .ok (.aload_n 0, 1) := by decide +kernel
theorem dX12_readGround_43 : decode cX12_readGround 43 = .ok (.iconst 2, 1) := by decide +kernel
theorem dX12_readGround_44 : decode cX12_readGround 44 = .ok (.invokevirtual 184, 3) := by decide +kernel
theorem dX12_readGround_47 : decode cX12_readGround 47 = .ok (.aload_n 0, 1) := by decide +kernel
theorem dX12_readGround_48 : decode cX12_readGround 48 = .ok (.iconst 0, 1) := by decide +kernel
theorem dX12_readGround_49 : decode cX12_readGround 49 = .ok (.iconst 3, 1) := by decide +kernel
theorem dX12_readGround_50 : decode cX12_readGround 50 = .ok (.invokevirtual 192, 3) := by decide +kernel
theorem dX12_readGround_53 : decode cX12_readGround 53 = .ok (.istore_n 1, 1) := by decide +kernel
theorem dX12_readGround_54 : decode cX12_readGround 54 = .ok (.aload_n 0, 1) := by decide +kernel
theorem dX12_readGround_55 : decode cX12_readGround 55 = .ok (.invokevirtual 161, 3) := by decide +kernel
theorem dX12_readGround_58 : decode cX12_readGround 58 = .ok (.ifCond .ne 4, 3) := by decide +kernel
theorem dX12_readGround_61 : decode cX12_readGround 61 = .ok (.return_, 1) := by decide +kernel
theorem dX12_readGround_62 : decode cX12_readGround 62 = .ok (.aload_n 0, 1) := by decide +kernel
theorem dX12_readGround_63 : decode cX12_readGround 63 = .ok (.getfield 40, 3) := by decide +kernel
theorem dX12_readGround_66 : decode cX12_readGround 66 = .ok (.iload_n 1, 1) := by decide +kernel
theorem dX12_readGround_67 : decode cX12_readGround 67 = .ok (.iconst 1, 1) := by decide +kernel
theorem dX12_readGround_68 : decode cX12_readGround 68 = .ok (.bastore, 1) := by decide +kernel
theorem dX12_readGround_69 : decode cX12_readGround 69 = .ok (.aload_n 0, 1) := by decide +kernel
theorem dX12_readGround_70 : decode cX12_readGround 70 = .ok (.getfield 37, 3) := by decide +kernel
theorem dX12_readGround_73 : decode cX12_readGround 73 = .ok (.bipush 20, 2) := by decide +kernel
theorem dX12_readGround_75 : decode cX12_readGround 75 = .ok (.iconst 4, 1) := by decide +kernel
theorem dX12_readGround_76 : decode cX12_readGround 76 = .ok (.iload_n 1, 1) := by decide +kernel
theorem dX12_readGround_77 : decode cX12_readGround 77 = .ok (.imul, 1) := by decide +kernel
theorem dX12_readGround_78 : decode cX12_readGround 78 = .ok (.iadd, 1) := by decide +kernel
theorem dX12_readGround_79 : decode cX12_readGround 79 = .ok (.aload_n 0, 1) := by decide +kernel
theorem dX12_readGround_80 : decode cX12_readGround 80 = .ok (.ldc 200, 2) := by decide +kernel
theorem dX12_readGround_82 : decode cX12_readGround 82 = .ok (.iconst 0, 1) := by decide +kernel
theorem dX12_readGround_83 : decode cX12_readGround 83 = .ok (.bipush 15, 2) := by decide +kernel
theorem dX12_readGround_85 : decode cX12_readGround 85 = .ok (.invokevirtual 202, 3) := by decide +kernel
theorem dX12_readGround_88 : decode cX12_readGround 88 = .ok (.iastore, 1) := by decide +kernel
theorem dX12_readGround_89 : decode cX12_readGround 89 = .ok (.aload_n 0, 1) := by decide +kernel
theorem dX12_readGround_90 : decode cX12_readGround 90 = .ok (.getfield 37, 3) := by decide +kernel
theorem dX12_readGround_93 : decode cX12_readGround 93 = .ok (.bipush 20, 2) := by decide +kernel
theorem dX12_readGround_95 : decode cX12_readGround 95 = .ok (.iconst 4, 1) := by decide +kernel
theorem dX12_readGround_96 : decode cX12_readGround 96 = .ok (.iload_n 1, 1) := by decide +kernel
theorem dX12_readGround_97 : decode cX12_readGround 97 = .ok (.imul, 1) := by decide +kernel
theorem dX12_readGround_98 : decode cX12_readGround 98 = .ok (.iadd, 1) := by decide +kernel
theorem dX12_readGround_99 : decode cX12_readGround 99 = .ok (.iconst 1, 1) := by decide +kernel
theorem dX12_readGround_100 : decode cX12_readGround 100 = .ok (.iadd, 1) := by decide +kernel
theorem dX12_readGround_101 : decode cX12_readGround 101 = .ok (.aload_n 0, 1) := by decide +kernel
theorem dX12_readGround_102 : decode cX12_readGround 102 = .ok (.ldc 206, 2) := by decide +kernel
theorem dX12_readGround_104 : decode cX12_readGround 104 = .ok (.iconst 0, 1) := by decide +kernel
theorem dX12_readGround_105 : decode cX12_readGround 105 = .ok (.bipush 15, 2) := by decide +kernel
theorem dX12_readGround_107 : decode cX12_readGround 107 = .ok (.invokevirtual 202, 3) := by decide +kernel
theorem dX12_readGround_110 : decode cX12_readGround 110 = .ok (.iastore, 1) := by decide +kernel
theorem dX12_readGround_111 : decode cX12_readGround 111 = .ok (.aload_n 0, 1) := by decide +kernel
theorem dX12_readGround_112 : decode cX12_readGround 112 = .ok (.getfield 37, 3) := by decide +kernel
theorem dX12_readGround_115 : decode cX12_readGround 115 = .ok (.bipush 20, 2) := by decide +kernel
theorem dX12_readGround_117 : decode cX12_readGround 117 = .ok (.iconst 4, 1) := by decide +kernel
theorem dX12_readGround_118 : decode cX12_readGround 118 = .ok (.iload_n 1, 1) := by decide +kernel
theorem dX12_readGround_119 : decode cX12_readGround 119 = .ok (.imul, 1) := by decide +kernel
theorem dX12_readGround_120 : decode cX12_readGround 120 = .ok (.iadd, 1) := by decide +kernel
theorem dX12_readGround_121 : decode cX12_readGround 121 = .ok (.iconst 2, 1) := by decide +kernel
theorem dX12_readGround_122 : decode cX12_readGround 122 = .ok (.iadd, 1) := by decide +kernel
theorem dX12_readGround_123 : decode cX12_readGround 123 = .ok (.aload_n 0, 1) := by decide +kernel
theorem dX12_readGround_124 : decode cX12_readGround 124 = .ok (.ldc 208, 2) := by decide +kernel
theorem dX12_readGround_126 : decode cX12_readGround 126 = .ok (.iconst 1, 1) := by decide +kernel
theorem dX12_readGround_127 : decode cX12_readGround 127 = .ok (.sipush 999, 3) := by decide +kernel
theorem dX12_readGround_130 : decode cX12_readGround 130 = .ok (.invokevirtual 202, 3) := by decide +kernel
theorem dX12_readGround_133 : decode cX12_readGround 133 = .ok (.iastore, 1) := by decide +kernel
theorem dX12_readGround_134 : decode cX12_readGround 134 = .ok (.aload_n 0, 1) := by decide +kernel
theorem dX12_readGround_135 : decode cX12_readGround 135 = .ok (.getfield 37, 3) := by decide +kernel
theorem dX12_readGround_138 : decode cX12_readGround 138 = .ok (.bipush 20, 2) := by decide +kernel
theorem dX12_readGround_140 : decode cX12_readGround 140 = .ok (.iconst 4, 1) := by decide +kernel
theorem dX12_readGround_141 : decode cX12_readGround 141 = .ok (.iload_n 1, 1) := by decide +kernel
theorem dX12_readGround_142 : decode cX12_readGround 142 = .ok (.imul, 1) := by decide +kernel
theorem dX12_readGround_143 : decode cX12_readGround 143 = .ok (.iadd, 1) := by decide +kernel
theorem dX12_readGround_144 : decode cX12_readGround 144 = .ok (.iconst 3, 1) := by decide +kernel
theorem dX12_readGround_145 : decode cX12_readGround 145 = .ok (.iadd, 1) := by decide +kernel
theorem dX12_readGround_146 : decode cX12_readGround 146 = .ok (.aload_n 0, 1) := by decide +kernel
theorem dX12_readGround_147 : decode cX12_readGround 147 = .ok (.ldc 210, 2) := by decide +kernel
theorem dX12_readGround_149 : decode cX12_readGround 149 = .ok (.bipush (-30), 2) := by decide +kernel
theorem dX12_readGround_151 : decode cX12_readGround 151 = .ok (.invokevirtual 212, 3) := by decide +kernel
theorem dX12_readGround_154 : decode cX12_readGround 154 = .ok (.iastore, 1) := by decide +kernel
theorem dX12_readGround_155 : decode cX12_readGround 155 = .ok (.return_, 1) := by decide +kernel
theorem cw_X12_readGround_192 : CwV mi_X12_readGround mi_X12_number yX12_number RX12 192 2 := ⟨⟨w_1434, w_1436, w_52, w_108, w_1437⟩, ⟨by decide, by decide⟩, by decide +kernel, by decide, by decide⟩
theorem cw_X12_readGround_161 : CwV mi_X12_readGround mi_X12_good yX12_good RX12 161 0 := ⟨⟨w_1398, w_1400, w_46, w_108, w_1401⟩, ⟨by decide, by decide⟩, by decide +kernel, by decide, by decide⟩
theorem cw_X12_readGround_202 : CwV mi_X12_readGround mi_X12_told yX12_told RX12 202 3 := ⟨⟨w_1439, w_1441, w_53, w_108, w_1442⟩, ⟨by decide, by decide⟩, by decide +kernel, by decide, by decide⟩
theorem cw_X12_readGround_212 : CwV mi_X12_readGround mi_X12_below yX12_below RX12 212 2 := ⟨⟨w_1450, w_1452, w_55, w_108, w_1453⟩, ⟨by decide, by decide⟩, by decide +kernel, by decide, by decide⟩
theorem cw_X12_readGround_110 : CwS mi_X12_readGround mi_X12_in yX12_in 110 3 := ⟨⟨w_1365, w_1366, w_108, w_1367⟩, ⟨by decide, by decide⟩, by decide +kernel, by decide, by decide⟩
theorem cw_X12_readGround_184 : CwV mi_X12_readGround mi_X12_wrong yX12_wrong RX12 184 1 := ⟨⟨w_1421, w_1423, w_49, w_108, w_1424⟩, ⟨by decide, by decide⟩, by decide +kernel, by decide, by decide⟩
theorem j_X12_readGround_B47 {l : Launch} {Γ : Am}   : ∀ (r0 : Nat) (z : Hp), J l Γ mi_X12_readGround cvV 0 0 47 [(0, .ref (mB Γ + r0))] [] z (m_X12_readGround_B47  r0 z) := by
  intro r0 z
  unfold m_X12_readGround_B47
  refine j_aload_n (pc := 47) 0 dX12_readGround_47 rfl rfl ?_
  refine j_iconst (pc := 48) (v := 0) dX12_readGround_48 (by decide) ?_
  refine j_iconst (pc := 49) (v := 3) dX12_readGround_49 (by decide) ?_
  refine j_isC (fun h3 => ?_)
  refine j_callV_I (pc := 50) (as := [.int 0, .int 3]) (mc2 := 0) (ms2 := 0) (ct_X12_number _ _ _ _) h3 rfl cw_X12_readGround_192 dX12_readGround_50 (Nat.le_of_ble_eq_true rfl) rfl (by decide) (by decide) (fun x2 z1 => ?_)
  refine j_istore_n (pc := 53) (lv2 := [(1, .int x2), (0, .ref (mB Γ + r0))]) dX12_readGround_53 rfl (by decide) rfl ?_
  refine j_aload_n (pc := 54) 1 dX12_readGround_54 rfl rfl ?_
  refine j_isC (fun h6 => ?_)
  refine j_callV_I (pc := 55) (as := []) (mc2 := 0) (ms2 := 0) (ct_X12_good _ _) h6 rfl cw_X12_readGround_161 dX12_readGround_55 (Nat.le_of_ble_eq_true rfl) rfl (by decide) (by decide) (fun x5 z4 => ?_)
  refine j_if_ne (pc := 58) 62 dX12_readGround_58 (by decide) ?_ ?_
  · refine j_aload_n (pc := 62) 1 dX12_readGround_62 rfl rfl ?_
    refine j_getR (pc := 63) ok_X12 (by decide) rfl w_1254 dX12_readGround_63 (fun a7 => ?_)
    refine j_iload_n (pc := 66) 0 dX12_readGround_66 rfl rfl ?_
    refine j_iconst (pc := 67) (v := 1) dX12_readGround_67 (by decide) ?_
    refine j_zastore (pc := 68) dX12_readGround_68 (fun z8 => ?_)
    refine j_aload_n (pc := 69) 1 dX12_readGround_69 rfl rfl ?_
    refine j_getR (pc := 70) ok_X12 (by decide) rfl w_1253 dX12_readGround_70 (fun a9 => ?_)
    refine j_bipush (pc := 73) (v := 20) dX12_readGround_73 (by decide) ?_
    refine j_iconst (pc := 75) (v := 4) dX12_readGround_75 (by decide) ?_
    refine j_iload_n (pc := 76) 0 dX12_readGround_76 rfl rfl ?_
    refine j_imul (pc := 77) dX12_readGround_77 ?_
    refine j_iadd (pc := 78) dX12_readGround_78 ?_
    refine j_aload_n (pc := 79) 1 dX12_readGround_79 rfl rfl ?_
    refine j_ldcS (pc := 80) (w := 33) (tx := "lead") dX12_readGround_80 (by decide +kernel) ?_
    refine j_iconst (pc := 82) (v := 0) dX12_readGround_82 (by decide) ?_
    refine j_bipush (pc := 83) (v := 15) dX12_readGround_83 (by decide) ?_
    refine j_isC (fun h12 => ?_)
    refine j_callV_I (pc := 85) (as := [.ref (mT Γ 33), .int 0, .int 15]) (mc2 := 0) (ms2 := 0) (ct_X12_told _ _ _ _ _) h12 rfl cw_X12_readGround_202 dX12_readGround_85 (Nat.le_of_ble_eq_true rfl) rfl (by decide) (by decide) (fun x11 z10 => ?_)
    refine j_iastore (pc := 88) dX12_readGround_88 (fun z13 => ?_)
    refine j_aload_n (pc := 89) 1 dX12_readGround_89 rfl rfl ?_
    refine j_getR (pc := 90) ok_X12 (by decide) rfl w_1253 dX12_readGround_90 (fun a14 => ?_)
    refine j_bipush (pc := 93) (v := 20) dX12_readGround_93 (by decide) ?_
    refine j_iconst (pc := 95) (v := 4) dX12_readGround_95 (by decide) ?_
    refine j_iload_n (pc := 96) 0 dX12_readGround_96 rfl rfl ?_
    refine j_imul (pc := 97) dX12_readGround_97 ?_
    refine j_iadd (pc := 98) dX12_readGround_98 ?_
    refine j_iconst (pc := 99) (v := 1) dX12_readGround_99 (by decide) ?_
    refine j_iadd (pc := 100) dX12_readGround_100 ?_
    refine j_aload_n (pc := 101) 1 dX12_readGround_101 rfl rfl ?_
    refine j_ldcS (pc := 102) (w := 34) (tx := "ice") dX12_readGround_102 (by decide +kernel) ?_
    refine j_iconst (pc := 104) (v := 0) dX12_readGround_104 (by decide) ?_
    refine j_bipush (pc := 105) (v := 15) dX12_readGround_105 (by decide) ?_
    refine j_isC (fun h17 => ?_)
    refine j_callV_I (pc := 107) (as := [.ref (mT Γ 34), .int 0, .int 15]) (mc2 := 0) (ms2 := 0) (ct_X12_told _ _ _ _ _) h17 rfl cw_X12_readGround_202 dX12_readGround_107 (Nat.le_of_ble_eq_true rfl) rfl (by decide) (by decide) (fun x16 z15 => ?_)
    refine j_iastore (pc := 110) dX12_readGround_110 (fun z18 => ?_)
    refine j_aload_n (pc := 111) 1 dX12_readGround_111 rfl rfl ?_
    refine j_getR (pc := 112) ok_X12 (by decide) rfl w_1253 dX12_readGround_112 (fun a19 => ?_)
    refine j_bipush (pc := 115) (v := 20) dX12_readGround_115 (by decide) ?_
    refine j_iconst (pc := 117) (v := 4) dX12_readGround_117 (by decide) ?_
    refine j_iload_n (pc := 118) 0 dX12_readGround_118 rfl rfl ?_
    refine j_imul (pc := 119) dX12_readGround_119 ?_
    refine j_iadd (pc := 120) dX12_readGround_120 ?_
    refine j_iconst (pc := 121) (v := 2) dX12_readGround_121 (by decide) ?_
    refine j_iadd (pc := 122) dX12_readGround_122 ?_
    refine j_aload_n (pc := 123) 1 dX12_readGround_123 rfl rfl ?_
    refine j_ldcS (pc := 124) (w := 35) (tx := "latent") dX12_readGround_124 (by decide +kernel) ?_
    refine j_iconst (pc := 126) (v := 1) dX12_readGround_126 (by decide) ?_
    refine j_sipush (pc := 127) (v := 999) dX12_readGround_127 (by decide) ?_
    refine j_isC (fun h22 => ?_)
    refine j_callV_I (pc := 130) (as := [.ref (mT Γ 35), .int 1, .int 999]) (mc2 := 0) (ms2 := 0) (ct_X12_told _ _ _ _ _) h22 rfl cw_X12_readGround_202 dX12_readGround_130 (Nat.le_of_ble_eq_true rfl) rfl (by decide) (by decide) (fun x21 z20 => ?_)
    refine j_iastore (pc := 133) dX12_readGround_133 (fun z23 => ?_)
    refine j_aload_n (pc := 134) 1 dX12_readGround_134 rfl rfl ?_
    refine j_getR (pc := 135) ok_X12 (by decide) rfl w_1253 dX12_readGround_135 (fun a24 => ?_)
    refine j_bipush (pc := 138) (v := 20) dX12_readGround_138 (by decide) ?_
    refine j_iconst (pc := 140) (v := 4) dX12_readGround_140 (by decide) ?_
    refine j_iload_n (pc := 141) 0 dX12_readGround_141 rfl rfl ?_
    refine j_imul (pc := 142) dX12_readGround_142 ?_
    refine j_iadd (pc := 143) dX12_readGround_143 ?_
    refine j_iconst (pc := 144) (v := 3) dX12_readGround_144 (by decide) ?_
    refine j_iadd (pc := 145) dX12_readGround_145 ?_
    refine j_aload_n (pc := 146) 1 dX12_readGround_146 rfl rfl ?_
    refine j_ldcS (pc := 147) (w := 36) (tx := "mark") dX12_readGround_147 (by decide +kernel) ?_
    refine j_bipush (pc := 149) (v := (-30)) dX12_readGround_149 (by decide) ?_
    refine j_isC (fun h27 => ?_)
    refine j_callV_I (pc := 151) (as := [.ref (mT Γ 36), .int (-30)]) (mc2 := 0) (ms2 := 0) (ct_X12_below _ _ _ _) h27 rfl cw_X12_readGround_212 dX12_readGround_151 (Nat.le_of_ble_eq_true rfl) rfl (by decide) (by decide) (fun x26 z25 => ?_)
    refine j_iastore (pc := 154) dX12_readGround_154 (fun z28 => ?_)
    exact j_return (pc := 155) dX12_readGround_155 rfl
  exact j_return (pc := 61) dX12_readGround_61 rfl
theorem ct_X12_readGround {l : Launch} {Γ : Am} (r0 : Nat) (z : Hp) : Ct l Γ yX12_readGround mi_X12_readGround cvV [.ref (mB Γ + r0)] z (m_X12_readGround r0 z) := by
  refine Ct.ofJ (by decide) ⟨rfl, rfl⟩ (Nat.le_of_ble_eq_true rfl) ?_
  unfold m_X12_readGround
  show J l Γ mi_X12_readGround cvV 0 0 0 [(0, .ref (mB Γ + r0))] [] z _
  refine j_aload_n (pc := 0) 0 dX12_readGround_0 rfl rfl ?_
  refine j_isC (fun h31 => ?_)
  refine j_callV_I (pc := 1) (as := []) (mc2 := 0) (ms2 := 0) (ct_X12_good _ _) h31 rfl cw_X12_readGround_161 dX12_readGround_1 (Nat.le_of_ble_eq_true rfl) rfl (by decide) (by decide) (fun x30 z29 => ?_)
  refine j_if_eq (pc := 4) 47 dX12_readGround_4 (by decide) ?_ ?_
  · exact J.sub [0] rfl (j_X12_readGround_B47 r0 z29)
  refine j_aload_n (pc := 7) 0 dX12_readGround_7 rfl rfl ?_
  refine j_getI (pc := 8) ok_X12 (by decide) rfl w_1249 dX12_readGround_8 (fun x32 => ?_)
  refine j_iconst (pc := 11) (v := 2) dX12_readGround_11 (by decide) ?_
  refine j_icmp_ne (pc := 12) 47 dX12_readGround_12 (by decide) ?_ ?_
  · exact J.sub [0] rfl (j_X12_readGround_B47 r0 z29)
  refine j_aload_n (pc := 15) 0 dX12_readGround_15 rfl rfl ?_
  refine j_getI (pc := 16) ok_X12 (by decide) rfl w_1250 dX12_readGround_16 (fun x33 => ?_)
  refine j_i2l (pc := 19) dX12_readGround_19 ?_
  refine j_lconst (pc := 20) (v := 0) dX12_readGround_20 (by decide) ?_
  refine j_ldc2 (pc := 21) (v := 3) dX12_readGround_21 w_1433 ?_
  refine j_callS_I (pc := 24) (as := [.long (Int32.toInt64 x33), .long 0, .long 3]) (mc2 := 0) (ms2 := 0) (ct_X12_in _ _ _ _) cw_X12_readGround_110 dX12_readGround_24 (Nat.le_of_ble_eq_true rfl) rfl (by decide) (by decide) (fun x35 z34 => ?_)
  refine j_if_eq (pc := 27) 47 dX12_readGround_27 (by decide) ?_ ?_
  · exact J.sub [0] rfl (j_X12_readGround_B47 r0 z34)
  refine j_aload_n (pc := 30) 0 dX12_readGround_30 rfl rfl ?_
  refine j_getR (pc := 31) ok_X12 (by decide) rfl w_1254 dX12_readGround_31 (fun a36 => ?_)
  refine j_aload_n (pc := 34) 0 dX12_readGround_34 rfl rfl ?_
  refine j_getI (pc := 35) ok_X12 (by decide) rfl w_1250 dX12_readGround_35 (fun x37 => ?_)
  refine j_zaload (pc := 38) dX12_readGround_38 (fun x38 => ?_)
  refine j_if_eq (pc := 39) 47 dX12_readGround_39 (by decide) ?_ ?_
  · exact J.sub [0] rfl (j_X12_readGround_B47 r0 z34)
  refine j_aload_n (pc := 42) 0 dX12_readGround_42 rfl rfl ?_
  refine j_iconst (pc := 43) (v := 2) dX12_readGround_43 (by decide) ?_
  refine j_isC (fun h40 => ?_)
  refine j_callV_V (pc := 44) (as := [.int 2]) (mc2 := 0) (ms2 := 0) (ct_X12_wrong _ _ _) h40 rfl cw_X12_readGround_184 dX12_readGround_44 (Nat.le_of_ble_eq_true rfl) rfl (by decide) (by decide) (fun _ z39 => ?_)
  exact J.sub [0] rfl (j_X12_readGround_B47 r0 z39)
theorem dX12_readBox_0 : decode cX12_readBox 0 = .ok (.aload_n 0, 1) := by decide +kernel
theorem dX12_readBox_1 : decode cX12_readBox 1 = .ok (.aload_n 0, 1) := by decide +kernel
theorem dX12_readBox_2 : decode cX12_readBox 2 = .ok (.iload_n 1, 1) := by decide +kernel
theorem dX12_readBox_3 : decode cX12_readBox 3 = .ok (.iload_n 2, 1) := by decide +kernel
theorem dX12_readBox_4 : decode cX12_readBox 4 = .ok (.invokevirtual 192, 3) := by decide +kernel
theorem dX12_readBox_7 : decode cX12_readBox 7 = .ok (.putfield 216, 3) := by decide +kernel
theorem dX12_readBox_10 : decode cX12_readBox 10 = .ok (.aload_n 0, 1) := by decide +kernel
theorem dX12_readBox_11 : decode cX12_readBox 11 = .ok (.aload_n 0, 1) := by decide +kernel
theorem dX12_readBox_12 : decode cX12_readBox 12 = .ok (.iload_n 1, 1) := by decide +kernel
theorem dX12_readBox_13 : decode cX12_readBox 13 = .ok (.iload_n 2, 1) := by decide +kernel
theorem dX12_readBox_14 : decode cX12_readBox 14 = .ok (.invokevirtual 192, 3) := by decide +kernel
theorem dX12_readBox_17 : decode cX12_readBox 17 = .ok (.putfield 219, 3) := by decide +kernel
theorem dX12_readBox_20 : decode cX12_readBox 20 = .ok (.aload_n 0, 1) := by decide +kernel
theorem dX12_readBox_21 : decode cX12_readBox 21 = .ok (.ldc 222, 2) := by decide +kernel
theorem dX12_readBox_23 : decode cX12_readBox 23 = .ok (.invokevirtual 188, 3) := by decide +kernel
theorem dX12_readBox_26 : decode cX12_readBox 26 = .ok (.aload_n 0, 1) := by decide +kernel
theorem dX12_readBox_27 : decode cX12_readBox 27 = .ok (.aload_n 0, 1) := by decide +kernel
theorem dX12_readBox_28 : decode cX12_readBox 28 = .ok (.aload_n 0, 1) := by decide +kernel
theorem dX12_readBox_29 : decode cX12_readBox 29 = .ok (.getfield 216, 3) := by decide +kernel
theorem dX12_readBox_32 : decode cX12_readBox 32 = .ok (.iload_n 2, 1) := by decide +kernel
theorem dX12_readBox_33 : decode cX12_readBox 33 = .ok (.invokevirtual 192, 3) := by decide +kernel
theorem dX12_readBox_36 : decode cX12_readBox 36 = .ok (.putfield 224, 3) := by decide +kernel
theorem dX12_readBox_39 : decode cX12_readBox 39 = .ok (.aload_n 0, 1) := by decide +kernel
theorem dX12_readBox_40 : decode cX12_readBox 40 = .ok (.aload_n 0, 1) := by decide +kernel
theorem dX12_readBox_41 : decode cX12_readBox 41 = .ok (.aload_n 0, 1) := by decide +kernel
theorem dX12_readBox_42 : decode cX12_readBox 42 = .ok (.getfield 219, 3) := by decide +kernel
theorem dX12_readBox_45 : decode cX12_readBox 45 = .ok (.iload_n 2, 1) := by decide +kernel
theorem dX12_readBox_46 : decode cX12_readBox 46 = .ok (.invokevirtual 192, 3) := by decide +kernel
theorem dX12_readBox_49 : decode cX12_readBox 49 = .ok (.putfield 227, 3) := by decide +kernel
theorem dX12_readBox_52 : decode cX12_readBox 52 = .ok (.return_, 1) := by decide +kernel
theorem cw_X12_readBox_192 : CwV mi_X12_readBox mi_X12_number yX12_number RX12 192 2 := ⟨⟨w_1434, w_1436, w_52, w_108, w_1437⟩, ⟨by decide, by decide⟩, by decide +kernel, by decide, by decide⟩
theorem cw_X12_readBox_188 : CwV mi_X12_readBox mi_X12_needs yX12_needs RX12 188 1 := ⟨⟨w_1443, w_1445, w_54, w_108, w_1446⟩, ⟨by decide, by decide⟩, by decide +kernel, by decide, by decide⟩
theorem ct_X12_readBox {l : Launch} {Γ : Am} (r0 : Nat) (v1 : Int32) (v2 : Int32) (z : Hp) : Ct l Γ yX12_readBox mi_X12_readBox cvV [.ref (mB Γ + r0), .int v1, .int v2] z (m_X12_readBox r0 v1 v2 z) := by
  refine Ct.ofJ (by decide) ⟨rfl, rfl⟩ (Nat.le_of_ble_eq_true rfl) ?_
  unfold m_X12_readBox
  show J l Γ mi_X12_readBox cvV 0 0 0 [(0, .ref (mB Γ + r0)), (1, .int v1), (2, .int v2)] [] z _
  refine j_aload_n (pc := 0) 0 dX12_readBox_0 rfl rfl ?_
  refine j_aload_n (pc := 1) 0 dX12_readBox_1 rfl rfl ?_
  refine j_iload_n (pc := 2) 1 dX12_readBox_2 rfl rfl ?_
  refine j_iload_n (pc := 3) 2 dX12_readBox_3 rfl rfl ?_
  refine j_isC (fun h3 => ?_)
  refine j_callV_I (pc := 4) (as := [.int v1, .int v2]) (mc2 := 0) (ms2 := 0) (ct_X12_number _ _ _ _) h3 rfl cw_X12_readBox_192 dX12_readBox_4 (Nat.le_of_ble_eq_true rfl) rfl (by decide) (by decide) (fun x2 z1 => ?_)
  refine j_putI (pc := 7) ok_X12 (by decide) rfl w_1258 (Or.inl rfl) rfl rfl dX12_readBox_7 (fun z4 => ?_)
  refine j_aload_n (pc := 10) 0 dX12_readBox_10 rfl rfl ?_
  refine j_aload_n (pc := 11) 0 dX12_readBox_11 rfl rfl ?_
  refine j_iload_n (pc := 12) 1 dX12_readBox_12 rfl rfl ?_
  refine j_iload_n (pc := 13) 2 dX12_readBox_13 rfl rfl ?_
  refine j_isC (fun h7 => ?_)
  refine j_callV_I (pc := 14) (as := [.int v1, .int v2]) (mc2 := 0) (ms2 := 0) (ct_X12_number _ _ _ _) h7 rfl cw_X12_readBox_192 dX12_readBox_14 (Nat.le_of_ble_eq_true rfl) rfl (by decide) (by decide) (fun x6 z5 => ?_)
  refine j_putI (pc := 17) ok_X12 (by decide) rfl w_1259 (Or.inl rfl) rfl rfl dX12_readBox_17 (fun z8 => ?_)
  refine j_aload_n (pc := 20) 0 dX12_readBox_20 rfl rfl ?_
  refine j_ldcS (pc := 21) (w := 37) (tx := "to") dX12_readBox_21 (by decide +kernel) ?_
  refine j_isC (fun h10 => ?_)
  refine j_callV_V (pc := 23) (as := [.ref (mT Γ 37)]) (mc2 := 0) (ms2 := 0) (ct_X12_needs _ _ _) h10 rfl cw_X12_readBox_188 dX12_readBox_23 (Nat.le_of_ble_eq_true rfl) rfl (by decide) (by decide) (fun _ z9 => ?_)
  refine j_aload_n (pc := 26) 0 dX12_readBox_26 rfl rfl ?_
  refine j_aload_n (pc := 27) 0 dX12_readBox_27 rfl rfl ?_
  refine j_aload_n (pc := 28) 0 dX12_readBox_28 rfl rfl ?_
  refine j_getI (pc := 29) ok_X12 (by decide) rfl w_1258 dX12_readBox_29 (fun x11 => ?_)
  refine j_iload_n (pc := 32) 2 dX12_readBox_32 rfl rfl ?_
  refine j_isC (fun h14 => ?_)
  refine j_callV_I (pc := 33) (as := [.int x11, .int v2]) (mc2 := 0) (ms2 := 0) (ct_X12_number _ _ _ _) h14 rfl cw_X12_readBox_192 dX12_readBox_33 (Nat.le_of_ble_eq_true rfl) rfl (by decide) (by decide) (fun x13 z12 => ?_)
  refine j_putI (pc := 36) ok_X12 (by decide) rfl w_1260 (Or.inl rfl) rfl rfl dX12_readBox_36 (fun z15 => ?_)
  refine j_aload_n (pc := 39) 0 dX12_readBox_39 rfl rfl ?_
  refine j_aload_n (pc := 40) 0 dX12_readBox_40 rfl rfl ?_
  refine j_aload_n (pc := 41) 0 dX12_readBox_41 rfl rfl ?_
  refine j_getI (pc := 42) ok_X12 (by decide) rfl w_1259 dX12_readBox_42 (fun x16 => ?_)
  refine j_iload_n (pc := 45) 2 dX12_readBox_45 rfl rfl ?_
  refine j_isC (fun h19 => ?_)
  refine j_callV_I (pc := 46) (as := [.int x16, .int v2]) (mc2 := 0) (ms2 := 0) (ct_X12_number _ _ _ _) h19 rfl cw_X12_readBox_192 dX12_readBox_46 (Nat.le_of_ble_eq_true rfl) rfl (by decide) (by decide) (fun x18 z17 => ?_)
  refine j_putI (pc := 49) ok_X12 (by decide) rfl w_1261 (Or.inl rfl) rfl rfl dX12_readBox_49 (fun z20 => ?_)
  exact j_return (pc := 52) dX12_readBox_52 rfl
theorem dX12_readLay_0 : decode cX12_readLay 0 = .ok (.aload_n 0, 1) := by decide +kernel
theorem dX12_readLay_1 : decode cX12_readLay 1 = .ok (.iconst 0, 1) := by decide +kernel
theorem dX12_readLay_2 : decode cX12_readLay 2 = .ok (.bipush 11, 2) := by decide +kernel
theorem dX12_readLay_4 : decode cX12_readLay 4 = .ok (.invokevirtual 230, 3) := by decide +kernel
theorem dX12_readLay_7 : decode cX12_readLay 7 = .ok (.aload_n 0, 1) := by decide +kernel
theorem dX12_readLay_8 : decode cX12_readLay 8 = .ok (.ldc 234, 2) := by decide +kernel
theorem dX12_readLay_10 : decode cX12_readLay 10 = .ok (.iconst 0, 1) := by decide +kernel
theorem dX12_readLay_11 : decode cX12_readLay 11 = .ok (.iconst 3, 1) := by decide +kernel
theorem dX12_readLay_12 : decode cX12_readLay 12 = .ok (.invokevirtual 202, 3) := by decide +kernel
theorem dX12_readLay_15 : decode cX12_readLay 15 = .ok (.istore_n 1, 1) := by decide +kernel
theorem dX12_readLay_16 : decode cX12_readLay 16 = .ok (.aload_n 0, 1) := by decide +kernel
theorem dX12_readLay_17 : decode cX12_readLay 17 = .ok (.invokevirtual 161, 3) := by decide +kernel
theorem dX12_readLay_20 : decode cX12_readLay 20 = .ok (.ifCond .ne 4, 3) := by decide +kernel
theorem dX12_readLay_23 : decode cX12_readLay 23 = .ok (.return_, 1) := by decide +kernel
theorem dX12_readLay_24 : decode cX12_readLay 24 = .ok (.aload_n 0, 1) := by decide +kernel
theorem dX12_readLay_25 : decode cX12_readLay 25 = .ok (.getfield 219, 3) := by decide +kernel
theorem dX12_readLay_28 : decode cX12_readLay 28 = .ok (.istore_n 2, 1) := by decide +kernel
theorem dX12_readLay_29 : decode cX12_readLay 29 = .ok (.iload_n 2, 1) := by decide +kernel
theorem dX12_readLay_30 : decode cX12_readLay 30 = .ok (.aload_n 0, 1) := by decide +kernel
theorem dX12_readLay_31 : decode cX12_readLay 31 = .ok (.getfield 227, 3) := by decide +kernel
theorem dX12_readLay_34 : decode cX12_readLay 34 = .ok (.if_icmp .gt 43, 3) := by decide +kernel
theorem dX12_readLay_37 : decode cX12_readLay 37 = .ok (.aload_n 0, 1) := by decide +kernel
theorem dX12_readLay_38 : decode cX12_readLay 38 = .ok (.getfield 216, 3) := by decide +kernel
theorem dX12_readLay_41 : decode cX12_readLay 41 = .ok (.istore_n 3, 1) := by decide +kernel
theorem dX12_readLay_42 : decode cX12_readLay 42 = .ok (.iload_n 3, 1) := by decide +kernel
theorem dX12_readLay_43 : decode cX12_readLay 43 = .ok (.aload_n 0, 1) := by decide +kernel
theorem dX12_readLay_44 : decode cX12_readLay 44 = .ok (.getfield 224, 3) := by decide +kernel
theorem dX12_readLay_47 : decode cX12_readLay 47 = .ok (.if_icmp .gt 24, 3) := by decide +kernel
theorem dX12_readLay_50 : decode cX12_readLay 50 = .ok (.aload_n 0, 1) := by decide +kernel
theorem dX12_readLay_51 : decode cX12_readLay 51 = .ok (.getfield 37, 3) := by decide +kernel
theorem dX12_readLay_54 : decode cX12_readLay 54 = .ok (.bipush 48, 2) := by decide +kernel
theorem dX12_readLay_56 : decode cX12_readLay 56 = .ok (.bipush 12, 2) := by decide +kernel
theorem dX12_readLay_58 : decode cX12_readLay 58 = .ok (.iload_n 2, 1) := by decide +kernel
theorem dX12_readLay_59 : decode cX12_readLay 59 = .ok (.imul, 1) := by decide +kernel
theorem dX12_readLay_60 : decode cX12_readLay 60 = .ok (.iadd, 1) := by decide +kernel
theorem dX12_readLay_61 : decode cX12_readLay 61 = .ok (.iload_n 3, 1) := by decide +kernel
theorem dX12_readLay_62 : decode cX12_readLay 62 = .ok (.iadd, 1) := by decide +kernel
theorem dX12_readLay_63 : decode cX12_readLay 63 = .ok (.iload_n 1, 1) := by decide +kernel
theorem dX12_readLay_64 : decode cX12_readLay 64 = .ok (.iastore, 1) := by decide +kernel
theorem dX12_readLay_65 : decode cX12_readLay 65 = .ok (.iinc 3 1, 3) := by decide +kernel
theorem dX12_readLay_68 : decode cX12_readLay 68 = .ok (.goto (-26), 3) := by decide +kernel
theorem dX12_readLay_71 : decode cX12_readLay 71 = .ok (.iinc 2 1, 3) := by decide +kernel
theorem dX12_readLay_74 : decode cX12_readLay 74 = .ok (.goto (-45), 3) := by decide +kernel
theorem dX12_readLay_77 : decode cX12_readLay 77 = .ok (.return_, 1) := by decide +kernel
theorem cw_X12_readLay_230 : CwV mi_X12_readLay mi_X12_readBox yX12_readBox RX12 230 2 := ⟨⟨w_1462, w_1464, w_58, w_108, w_1465⟩, ⟨by decide, by decide⟩, by decide +kernel, by decide, by decide⟩
theorem cw_X12_readLay_202 : CwV mi_X12_readLay mi_X12_told yX12_told RX12 202 3 := ⟨⟨w_1439, w_1441, w_53, w_108, w_1442⟩, ⟨by decide, by decide⟩, by decide +kernel, by decide, by decide⟩
theorem cw_X12_readLay_161 : CwV mi_X12_readLay mi_X12_good yX12_good RX12 161 0 := ⟨⟨w_1398, w_1400, w_46, w_108, w_1401⟩, ⟨by decide, by decide⟩, by decide +kernel, by decide, by decide⟩
theorem j_X12_readLay_B71 {l : Launch} {Γ : Am} {k29 : Nat → Int32 → Int32 → Hp → Option (Unit × Hp)} (hL29 : ∀ (r0 : Nat) (v1 : Int32) (v2 : Int32) (z : Hp), J l Γ mi_X12_readLay cvV 0 0 29 [(0, .ref (mB Γ + r0)), (1, .int v1), (2, .int v2)] [] z (k29 r0 v1 v2 z)) : ∀ (r0 : Nat) (v1 : Int32) (v2 : Int32) (z : Hp), J l Γ mi_X12_readLay cvV 0 0 71 [(0, .ref (mB Γ + r0)), (1, .int v1), (2, .int v2)] [] z (m_X12_readLay_B71 k29 r0 v1 v2 z) := by
  intro r0 v1 v2 z
  unfold m_X12_readLay_B71
  refine j_iinc (pc := 71) (n0 := 2) (v0 := v2 + 1) (lv2 := [(2, .int (v2 + 1)), (0, .ref (mB Γ + r0)), (1, .int v1)]) dX12_readLay_71 rfl rfl (by decide) rfl ?_
  refine j_goto (pc := 74) 29 dX12_readLay_74 (by decide) ?_
  exact J.sub [1, 2, 0] rfl (hL29 r0 v1 (v2 + 1) z)
theorem j_X12_readLay_L42 {l : Launch} {Γ : Am} {k71 : Nat → Int32 → Int32 → Hp → Option (Unit × Hp)} (hL71 : ∀ (r0 : Nat) (v1 : Int32) (v2 : Int32) (z : Hp), J l Γ mi_X12_readLay cvV 0 0 71 [(0, .ref (mB Γ + r0)), (1, .int v1), (2, .int v2)] [] z (k71 r0 v1 v2 z)) : ∀ (f : Nat), ∀ (r0 : Nat) (v1 : Int32) (v2 : Int32) (v3 : Int32) (z : Hp), J l Γ mi_X12_readLay cvV 0 0 42 [(0, .ref (mB Γ + r0)), (1, .int v1), (2, .int v2), (3, .int v3)] [] z (m_X12_readLay_L42 k71 f r0 v1 v2 v3 z) := by
  intro f
  induction f with
  | zero => intro r0 v1 v2 v3 z; exact J.none
  | succ f hL42 =>
    intro r0 v1 v2 v3 z
    rw [m_X12_readLay_L42]
    refine j_iload_n (pc := 42) 3 dX12_readLay_42 rfl rfl ?_
    refine j_aload_n (pc := 43) 0 dX12_readLay_43 rfl rfl ?_
    refine j_getI (pc := 44) ok_X12 (by decide) rfl w_1260 dX12_readLay_44 (fun x1 => ?_)
    refine j_icmp_gt (pc := 47) 71 dX12_readLay_47 (by decide) ?_ ?_
    · exact J.sub [0, 1, 2] rfl (hL71 r0 v1 v2 z)
    refine j_aload_n (pc := 50) 0 dX12_readLay_50 rfl rfl ?_
    refine j_getR (pc := 51) ok_X12 (by decide) rfl w_1253 dX12_readLay_51 (fun a2 => ?_)
    refine j_bipush (pc := 54) (v := 48) dX12_readLay_54 (by decide) ?_
    refine j_bipush (pc := 56) (v := 12) dX12_readLay_56 (by decide) ?_
    refine j_iload_n (pc := 58) 2 dX12_readLay_58 rfl rfl ?_
    refine j_imul (pc := 59) dX12_readLay_59 ?_
    refine j_iadd (pc := 60) dX12_readLay_60 ?_
    refine j_iload_n (pc := 61) 3 dX12_readLay_61 rfl rfl ?_
    refine j_iadd (pc := 62) dX12_readLay_62 ?_
    refine j_iload_n (pc := 63) 1 dX12_readLay_63 rfl rfl ?_
    refine j_iastore (pc := 64) dX12_readLay_64 (fun z3 => ?_)
    refine j_iinc (pc := 65) (n0 := 3) (v0 := v3 + 1) (lv2 := [(3, .int (v3 + 1)), (0, .ref (mB Γ + r0)), (1, .int v1), (2, .int v2)]) dX12_readLay_65 rfl rfl (by decide) rfl ?_
    refine j_goto (pc := 68) 42 dX12_readLay_68 (by decide) ?_
    exact J.sub [1, 2, 3, 0] rfl (hL42 r0 v1 v2 (v3 + 1) z3)
theorem j_X12_readLay_L29 {l : Launch} {Γ : Am}   : ∀ (f : Nat), ∀ (r0 : Nat) (v1 : Int32) (v2 : Int32) (z : Hp), J l Γ mi_X12_readLay cvV 0 0 29 [(0, .ref (mB Γ + r0)), (1, .int v1), (2, .int v2)] [] z (m_X12_readLay_L29  f r0 v1 v2 z) := by
  intro f
  induction f with
  | zero => intro r0 v1 v2 z; exact J.none
  | succ f hL29 =>
    intro r0 v1 v2 z
    rw [m_X12_readLay_L29]
    refine j_iload_n (pc := 29) 2 dX12_readLay_29 rfl rfl ?_
    refine j_aload_n (pc := 30) 0 dX12_readLay_30 rfl rfl ?_
    refine j_getI (pc := 31) ok_X12 (by decide) rfl w_1261 dX12_readLay_31 (fun x4 => ?_)
    refine j_icmp_gt (pc := 34) 77 dX12_readLay_34 (by decide) ?_ ?_
    · exact j_return (pc := 77) dX12_readLay_77 rfl
    refine j_aload_n (pc := 37) 0 dX12_readLay_37 rfl rfl ?_
    refine j_getI (pc := 38) ok_X12 (by decide) rfl w_1258 dX12_readLay_38 (fun x5 => ?_)
    refine j_istore_n (pc := 41) (lv2 := [(3, .int x5), (0, .ref (mB Γ + r0)), (1, .int v1), (2, .int v2)]) dX12_readLay_41 rfl (by decide) rfl ?_
    exact J.sub [1, 2, 3, 0] rfl ((j_X12_readLay_L42 (j_X12_readLay_B71 hL29) FU) r0 v1 v2 x5 z)
theorem ct_X12_readLay {l : Launch} {Γ : Am} (r0 : Nat) (z : Hp) : Ct l Γ yX12_readLay mi_X12_readLay cvV [.ref (mB Γ + r0)] z (m_X12_readLay r0 z) := by
  refine Ct.ofJ (by decide) ⟨rfl, rfl⟩ (Nat.le_of_ble_eq_true rfl) ?_
  unfold m_X12_readLay
  show J l Γ mi_X12_readLay cvV 0 0 0 [(0, .ref (mB Γ + r0))] [] z _
  refine j_aload_n (pc := 0) 0 dX12_readLay_0 rfl rfl ?_
  refine j_iconst (pc := 1) (v := 0) dX12_readLay_1 (by decide) ?_
  refine j_bipush (pc := 2) (v := 11) dX12_readLay_2 (by decide) ?_
  refine j_isC (fun h7 => ?_)
  refine j_callV_V (pc := 4) (as := [.int 0, .int 11]) (mc2 := 0) (ms2 := 0) (ct_X12_readBox _ _ _ _) h7 rfl cw_X12_readLay_230 dX12_readLay_4 (Nat.le_of_ble_eq_true rfl) rfl (by decide) (by decide) (fun _ z6 => ?_)
  refine j_aload_n (pc := 7) 0 dX12_readLay_7 rfl rfl ?_
  refine j_ldcS (pc := 8) (w := 24) (tx := "ground") dX12_readLay_8 (by decide +kernel) ?_
  refine j_iconst (pc := 10) (v := 0) dX12_readLay_10 (by decide) ?_
  refine j_iconst (pc := 11) (v := 3) dX12_readLay_11 (by decide) ?_
  refine j_isC (fun h10 => ?_)
  refine j_callV_I (pc := 12) (as := [.ref (mT Γ 24), .int 0, .int 3]) (mc2 := 0) (ms2 := 0) (ct_X12_told _ _ _ _ _) h10 rfl cw_X12_readLay_202 dX12_readLay_12 (Nat.le_of_ble_eq_true rfl) rfl (by decide) (by decide) (fun x9 z8 => ?_)
  refine j_istore_n (pc := 15) (lv2 := [(1, .int x9), (0, .ref (mB Γ + r0))]) dX12_readLay_15 rfl (by decide) rfl ?_
  refine j_aload_n (pc := 16) 1 dX12_readLay_16 rfl rfl ?_
  refine j_isC (fun h13 => ?_)
  refine j_callV_I (pc := 17) (as := []) (mc2 := 0) (ms2 := 0) (ct_X12_good _ _) h13 rfl cw_X12_readLay_161 dX12_readLay_17 (Nat.le_of_ble_eq_true rfl) rfl (by decide) (by decide) (fun x12 z11 => ?_)
  refine j_if_ne (pc := 20) 24 dX12_readLay_20 (by decide) ?_ ?_
  · refine j_aload_n (pc := 24) 1 dX12_readLay_24 rfl rfl ?_
    refine j_getI (pc := 25) ok_X12 (by decide) rfl w_1259 dX12_readLay_25 (fun x14 => ?_)
    refine j_istore_n (pc := 28) (lv2 := [(2, .int x14), (1, .int x9), (0, .ref (mB Γ + r0))]) dX12_readLay_28 rfl (by decide) rfl ?_
    exact J.sub [2, 1, 0] rfl ((j_X12_readLay_L29 FU) r0 x9 x14 z11)
  exact j_return (pc := 23) dX12_readLay_23 rfl
theorem dX12_readStream_0 : decode cX12_readStream 0 = .ok (.aload_n 0, 1) := by decide +kernel
theorem dX12_readStream_1 : decode cX12_readStream 1 = .ok (.invokevirtual 161, 3) := by decide +kernel
theorem dX12_readStream_4 : decode cX12_readStream 4 = .ok (.ifCond .eq 43, 3) := by decide +kernel
theorem dX12_readStream_7 : decode cX12_readStream 7 = .ok (.aload_n 0, 1) := by decide +kernel
theorem dX12_readStream_8 : decode cX12_readStream 8 = .ok (.getfield 138, 3) := by decide +kernel
theorem dX12_readStream_11 : decode cX12_readStream 11 = .ok (.iconst 2, 1) := by decide +kernel
theorem dX12_readStream_12 : decode cX12_readStream 12 = .ok (.if_icmp .ne 35, 3) := by decide +kernel
theorem dX12_readStream_15 : decode cX12_readStream 15 = .ok (.aload_n 0, 1) := by decide +kernel
theorem dX12_readStream_16 : decode cX12_readStream 16 = .ok (.getfield 149, 3) := by decide +kernel
theorem dX12_readStream_19 : decode cX12_readStream 19 = .ok (.i2l, 1) := by decide +kernel
theorem dX12_readStream_20 : decode cX12_readStream 20 = .ok (.lconst 0, 1) := by decide +kernel
theorem dX12_readStream_21 : decode cX12_readStream 21 = .ok (.ldc2_w 114, 3) := by decide +kernel
theorem dX12_readStream_24 : decode cX12_readStream 24 = .ok (.invokestatic 110, 3) := by decide +kernel
theorem dX12_readStream_27 : decode cX12_readStream 27 = .ok (.ifCond .eq 20, 3) := by decide +kernel
theorem dX12_readStream_30 : decode cX12_readStream 30 = .ok (.aload_n 0, 1) := by decide +kernel
theorem dX12_readStream_31 : decode cX12_readStream 31 = .ok (.getfield 43, 3) := by decide +kernel
theorem dX12_readStream_34 : decode cX12_readStream 34 = .ok (.aload_n 0, 1) := by decide +kernel
theorem dX12_readStream_35 : decode cX12_readStream 35 = .ok (.getfield 149, 3) := by decide +kernel
theorem dX12_readStream_38 : decode cX12_readStream 38 = .ok (.baload, 1) := by decide +kernel
theorem dX12_readStream_39 : decode cX12_readStream 39 = .ok (.ifCond .eq 8, 3) := by decide +kernel
theorem dX12_readStream_42 : decode cX12_readStream 42 = .ok (.aload_n 0, 1) := by decide +kernel
theorem dX12_readStream_43 : decode cX12_readStream 43 = .ok (.iconst 2, 1) := by decide +kernel
theorem dX12_readStream_44 : decode cX12_readStream 44 = .ok (.invokevirtual 184, 3) := by decide +kernel
theorem dX12_readStream_47 : decode cX12_readStream 47 = .ok (.aload_n 0, 1) := by decide +kernel
theorem dX12_readStream_48 : decode cX12_readStream 48 = .ok (.iconst 0, 1) := by decide +kernel
theorem dX12_readStream_49 : decode cX12_readStream 49 = .ok (.bipush 11, 2) := by decide +kernel
theorem dX12_readStream_51 : decode cX12_readStream 51 = .ok (.invokevirtual 192, 3) := by decide +kernel
theorem dX12_readStream_54 : decode cX12_readStream 54 = .ok (.istore_n 1, 1) := by decide +kernel
theorem dX12_readStream_55 : decode cX12_readStream 55 = .ok (.aload_n 0, 1) := by decide +kernel
theorem dX12_readStream_56 : decode cX12_readStream 56 = .ok (.ldc 236, 2) := by decide +kernel
theorem dX12_readStream_58 : decode cX12_readStream 58 = .ok (.iconst 0, 1) := by decide +kernel
theorem dX12_readStream_59 : decode cX12_readStream 59 = .ok (.bipush 30, 2) := by decide +kernel
theorem dX12_readStream_61 : decode cX12_readStream 61 = .ok (.invokevirtual 202, 3) := by decide +kernel
theorem dX12_readStream_64 : decode cX12_readStream 64 = .ok (.istore_n 2, 1) := by decide +kernel
theorem dX12_readStream_65 : decode cX12_readStream 65 = .ok (.aload_n 0, 1) := by decide +kernel
theorem dX12_readStream_66 : decode cX12_readStream 66 = .ok (.invokevirtual 161, 3) := by decide +kernel
theorem dX12_readStream_69 : decode cX12_readStream 69 = .ok (.ifCond .ne 4, 3) := by decide +kernel
theorem dX12_readStream_72 : decode cX12_readStream 72 = .ok (.return_, 1) := by decide +kernel
theorem dX12_readStream_73 : decode cX12_readStream 73 = .ok (.aload_n 0, 1) := by decide +kernel
theorem dX12_readStream_74 : decode cX12_readStream 74 = .ok (.getfield 43, 3) := by decide +kernel
theorem dX12_readStream_77 : decode cX12_readStream 77 = .ok (.iload_n 1, 1) := by decide +kernel
theorem dX12_readStream_78 : decode cX12_readStream 78 = .ok (.iconst 1, 1) := by decide +kernel
theorem dX12_readStream_79 : decode cX12_readStream 79 = .ok (.bastore, 1) := by decide +kernel
theorem dX12_readStream_80 : decode cX12_readStream 80 = .ok (.aload_n 0, 1) := by decide +kernel
theorem dX12_readStream_81 : decode cX12_readStream 81 = .ok (.getfield 37, 3) := by decide +kernel
theorem dX12_readStream_84 : decode cX12_readStream 84 = .ok (.bipush 36, 2) := by decide +kernel
theorem dX12_readStream_86 : decode cX12_readStream 86 = .ok (.iload_n 1, 1) := by decide +kernel
theorem dX12_readStream_87 : decode cX12_readStream 87 = .ok (.iadd, 1) := by decide +kernel
theorem dX12_readStream_88 : decode cX12_readStream 88 = .ok (.iload_n 2, 1) := by decide +kernel
theorem dX12_readStream_89 : decode cX12_readStream 89 = .ok (.iastore, 1) := by decide +kernel
theorem dX12_readStream_90 : decode cX12_readStream 90 = .ok (.return_, 1) := by decide +kernel
theorem cw_X12_readStream_192 : CwV mi_X12_readStream mi_X12_number yX12_number RX12 192 2 := ⟨⟨w_1434, w_1436, w_52, w_108, w_1437⟩, ⟨by decide, by decide⟩, by decide +kernel, by decide, by decide⟩
theorem cw_X12_readStream_202 : CwV mi_X12_readStream mi_X12_told yX12_told RX12 202 3 := ⟨⟨w_1439, w_1441, w_53, w_108, w_1442⟩, ⟨by decide, by decide⟩, by decide +kernel, by decide, by decide⟩
theorem cw_X12_readStream_161 : CwV mi_X12_readStream mi_X12_good yX12_good RX12 161 0 := ⟨⟨w_1398, w_1400, w_46, w_108, w_1401⟩, ⟨by decide, by decide⟩, by decide +kernel, by decide, by decide⟩
theorem cw_X12_readStream_110 : CwS mi_X12_readStream mi_X12_in yX12_in 110 3 := ⟨⟨w_1365, w_1366, w_108, w_1367⟩, ⟨by decide, by decide⟩, by decide +kernel, by decide, by decide⟩
theorem cw_X12_readStream_184 : CwV mi_X12_readStream mi_X12_wrong yX12_wrong RX12 184 1 := ⟨⟨w_1421, w_1423, w_49, w_108, w_1424⟩, ⟨by decide, by decide⟩, by decide +kernel, by decide, by decide⟩
theorem j_X12_readStream_B47 {l : Launch} {Γ : Am}   : ∀ (r0 : Nat) (z : Hp), J l Γ mi_X12_readStream cvV 0 0 47 [(0, .ref (mB Γ + r0))] [] z (m_X12_readStream_B47  r0 z) := by
  intro r0 z
  unfold m_X12_readStream_B47
  refine j_aload_n (pc := 47) 0 dX12_readStream_47 rfl rfl ?_
  refine j_iconst (pc := 48) (v := 0) dX12_readStream_48 (by decide) ?_
  refine j_bipush (pc := 49) (v := 11) dX12_readStream_49 (by decide) ?_
  refine j_isC (fun h3 => ?_)
  refine j_callV_I (pc := 51) (as := [.int 0, .int 11]) (mc2 := 0) (ms2 := 0) (ct_X12_number _ _ _ _) h3 rfl cw_X12_readStream_192 dX12_readStream_51 (Nat.le_of_ble_eq_true rfl) rfl (by decide) (by decide) (fun x2 z1 => ?_)
  refine j_istore_n (pc := 54) (lv2 := [(1, .int x2), (0, .ref (mB Γ + r0))]) dX12_readStream_54 rfl (by decide) rfl ?_
  refine j_aload_n (pc := 55) 1 dX12_readStream_55 rfl rfl ?_
  refine j_ldcS (pc := 56) (w := 38) (tx := "speed") dX12_readStream_56 (by decide +kernel) ?_
  refine j_iconst (pc := 58) (v := 0) dX12_readStream_58 (by decide) ?_
  refine j_bipush (pc := 59) (v := 30) dX12_readStream_59 (by decide) ?_
  refine j_isC (fun h6 => ?_)
  refine j_callV_I (pc := 61) (as := [.ref (mT Γ 38), .int 0, .int 30]) (mc2 := 0) (ms2 := 0) (ct_X12_told _ _ _ _ _) h6 rfl cw_X12_readStream_202 dX12_readStream_61 (Nat.le_of_ble_eq_true rfl) rfl (by decide) (by decide) (fun x5 z4 => ?_)
  refine j_istore_n (pc := 64) (lv2 := [(2, .int x5), (1, .int x2), (0, .ref (mB Γ + r0))]) dX12_readStream_64 rfl (by decide) rfl ?_
  refine j_aload_n (pc := 65) 2 dX12_readStream_65 rfl rfl ?_
  refine j_isC (fun h9 => ?_)
  refine j_callV_I (pc := 66) (as := []) (mc2 := 0) (ms2 := 0) (ct_X12_good _ _) h9 rfl cw_X12_readStream_161 dX12_readStream_66 (Nat.le_of_ble_eq_true rfl) rfl (by decide) (by decide) (fun x8 z7 => ?_)
  refine j_if_ne (pc := 69) 73 dX12_readStream_69 (by decide) ?_ ?_
  · refine j_aload_n (pc := 73) 2 dX12_readStream_73 rfl rfl ?_
    refine j_getR (pc := 74) ok_X12 (by decide) rfl w_1255 dX12_readStream_74 (fun a10 => ?_)
    refine j_iload_n (pc := 77) 1 dX12_readStream_77 rfl rfl ?_
    refine j_iconst (pc := 78) (v := 1) dX12_readStream_78 (by decide) ?_
    refine j_zastore (pc := 79) dX12_readStream_79 (fun z11 => ?_)
    refine j_aload_n (pc := 80) 2 dX12_readStream_80 rfl rfl ?_
    refine j_getR (pc := 81) ok_X12 (by decide) rfl w_1253 dX12_readStream_81 (fun a12 => ?_)
    refine j_bipush (pc := 84) (v := 36) dX12_readStream_84 (by decide) ?_
    refine j_iload_n (pc := 86) 1 dX12_readStream_86 rfl rfl ?_
    refine j_iadd (pc := 87) dX12_readStream_87 ?_
    refine j_iload_n (pc := 88) 0 dX12_readStream_88 rfl rfl ?_
    refine j_iastore (pc := 89) dX12_readStream_89 (fun z13 => ?_)
    exact j_return (pc := 90) dX12_readStream_90 rfl
  exact j_return (pc := 72) dX12_readStream_72 rfl
theorem ct_X12_readStream {l : Launch} {Γ : Am} (r0 : Nat) (z : Hp) : Ct l Γ yX12_readStream mi_X12_readStream cvV [.ref (mB Γ + r0)] z (m_X12_readStream r0 z) := by
  refine Ct.ofJ (by decide) ⟨rfl, rfl⟩ (Nat.le_of_ble_eq_true rfl) ?_
  unfold m_X12_readStream
  show J l Γ mi_X12_readStream cvV 0 0 0 [(0, .ref (mB Γ + r0))] [] z _
  refine j_aload_n (pc := 0) 0 dX12_readStream_0 rfl rfl ?_
  refine j_isC (fun h16 => ?_)
  refine j_callV_I (pc := 1) (as := []) (mc2 := 0) (ms2 := 0) (ct_X12_good _ _) h16 rfl cw_X12_readStream_161 dX12_readStream_1 (Nat.le_of_ble_eq_true rfl) rfl (by decide) (by decide) (fun x15 z14 => ?_)
  refine j_if_eq (pc := 4) 47 dX12_readStream_4 (by decide) ?_ ?_
  · exact J.sub [0] rfl (j_X12_readStream_B47 r0 z14)
  refine j_aload_n (pc := 7) 0 dX12_readStream_7 rfl rfl ?_
  refine j_getI (pc := 8) ok_X12 (by decide) rfl w_1249 dX12_readStream_8 (fun x17 => ?_)
  refine j_iconst (pc := 11) (v := 2) dX12_readStream_11 (by decide) ?_
  refine j_icmp_ne (pc := 12) 47 dX12_readStream_12 (by decide) ?_ ?_
  · exact J.sub [0] rfl (j_X12_readStream_B47 r0 z14)
  refine j_aload_n (pc := 15) 0 dX12_readStream_15 rfl rfl ?_
  refine j_getI (pc := 16) ok_X12 (by decide) rfl w_1250 dX12_readStream_16 (fun x18 => ?_)
  refine j_i2l (pc := 19) dX12_readStream_19 ?_
  refine j_lconst (pc := 20) (v := 0) dX12_readStream_20 (by decide) ?_
  refine j_ldc2 (pc := 21) (v := 11) dX12_readStream_21 w_1471 ?_
  refine j_callS_I (pc := 24) (as := [.long (Int32.toInt64 x18), .long 0, .long 11]) (mc2 := 0) (ms2 := 0) (ct_X12_in _ _ _ _) cw_X12_readStream_110 dX12_readStream_24 (Nat.le_of_ble_eq_true rfl) rfl (by decide) (by decide) (fun x20 z19 => ?_)
  refine j_if_eq (pc := 27) 47 dX12_readStream_27 (by decide) ?_ ?_
  · exact J.sub [0] rfl (j_X12_readStream_B47 r0 z19)
  refine j_aload_n (pc := 30) 0 dX12_readStream_30 rfl rfl ?_
  refine j_getR (pc := 31) ok_X12 (by decide) rfl w_1255 dX12_readStream_31 (fun a21 => ?_)
  refine j_aload_n (pc := 34) 0 dX12_readStream_34 rfl rfl ?_
  refine j_getI (pc := 35) ok_X12 (by decide) rfl w_1250 dX12_readStream_35 (fun x22 => ?_)
  refine j_zaload (pc := 38) dX12_readStream_38 (fun x23 => ?_)
  refine j_if_eq (pc := 39) 47 dX12_readStream_39 (by decide) ?_ ?_
  · exact J.sub [0] rfl (j_X12_readStream_B47 r0 z19)
  refine j_aload_n (pc := 42) 0 dX12_readStream_42 rfl rfl ?_
  refine j_iconst (pc := 43) (v := 2) dX12_readStream_43 (by decide) ?_
  refine j_isC (fun h25 => ?_)
  refine j_callV_V (pc := 44) (as := [.int 2]) (mc2 := 0) (ms2 := 0) (ct_X12_wrong _ _ _) h25 rfl cw_X12_readStream_184 dX12_readStream_44 (Nat.le_of_ble_eq_true rfl) rfl (by decide) (by decide) (fun _ z24 => ?_)
  exact J.sub [0] rfl (j_X12_readStream_B47 r0 z24)
theorem dX12_readPipe_0 : decode cX12_readPipe 0 = .ok (.aload_n 0, 1) := by decide +kernel
theorem dX12_readPipe_1 : decode cX12_readPipe 1 = .ok (.iconst 0, 1) := by decide +kernel
theorem dX12_readPipe_2 : decode cX12_readPipe 2 = .ok (.bipush 11, 2) := by decide +kernel
theorem dX12_readPipe_4 : decode cX12_readPipe 4 = .ok (.invokevirtual 192, 3) := by decide +kernel
theorem dX12_readPipe_7 : decode cX12_readPipe 7 = .ok (.istore_n 1, 1) := by decide +kernel
theorem dX12_readPipe_8 : decode cX12_readPipe 8 = .ok (.aload_n 0, 1) := by decide +kernel
theorem dX12_readPipe_9 : decode cX12_readPipe 9 = .ok (.invokevirtual 161, 3) := by decide +kernel
theorem dX12_readPipe_12 : decode cX12_readPipe 12 = .ok (.ifCond .eq 74, 3) := by decide +kernel
theorem dX12_readPipe_15 : decode cX12_readPipe 15 = .ok (.aload_n 0, 1) := by decide +kernel
theorem dX12_readPipe_16 : decode cX12_readPipe 16 = .ok (.getfield 138, 3) := by decide +kernel
theorem dX12_readPipe_19 : decode cX12_readPipe 19 = .ok (.iconst 2, 1) := by decide +kernel
theorem dX12_readPipe_20 : decode cX12_readPipe 20 = .ok (.if_icmp .ne 66, 3) := by decide +kernel
theorem dX12_readPipe_23 : decode cX12_readPipe 23 = .ok (.aload_n 0, 1) := by decide +kernel
theorem dX12_readPipe_24 : decode cX12_readPipe 24 = .ok (.getfield 149, 3) := by decide +kernel
theorem dX12_readPipe_27 : decode cX12_readPipe 27 = .ok (.i2l, 1) := by decide +kernel
theorem dX12_readPipe_28 : decode cX12_readPipe 28 = .ok (.lconst 0, 1) := by decide +kernel
theorem dX12_readPipe_29 : decode cX12_readPipe 29 = .ok (.ldc2_w 114, 3) := by decide +kernel
theorem dX12_readPipe_32 : decode cX12_readPipe 32 = .ok (.invokestatic 110, 3) := by decide +kernel
theorem dX12_readPipe_35 : decode cX12_readPipe 35 = .ok (.ifCond .eq 51, 3) := by decide +kernel
theorem dX12_readPipe_38 : decode cX12_readPipe 38 = .ok (.iconst 0, 1) := by decide +kernel
theorem dX12_readPipe_39 : decode cX12_readPipe 39 = .ok (.istore_n 2, 1) := by decide +kernel
theorem dX12_readPipe_40 : decode cX12_readPipe 40 = .ok (.iload_n 2, 1) := by decide +kernel
theorem dX12_readPipe_41 : decode cX12_readPipe 41 = .ok (.aload_n 0, 1) := by decide +kernel
theorem dX12_readPipe_42 : decode cX12_readPipe 42 = .ok (.getfield 37, 3) := by decide +kernel
theorem dX12_readPipe_45 : decode cX12_readPipe 45 = .ok (.iconst 2, 1) := by decide +kernel
theorem dX12_readPipe_46 : decode cX12_readPipe 46 = .ok (.iaload, 1) := by decide +kernel
theorem dX12_readPipe_47 : decode cX12_readPipe 47 = .ok (.if_icmp .ge 39, 3) := by decide +kernel
theorem dX12_readPipe_50 : decode cX12_readPipe 50 = .ok (.aload_n 0, 1) := by decide +kernel
theorem dX12_readPipe_51 : decode cX12_readPipe 51 = .ok (.getfield 37, 3) := by decide +kernel
theorem dX12_readPipe_54 : decode cX12_readPipe 54 = .ok (.sipush 624, 3) := by decide +kernel
theorem dX12_readPipe_57 : decode cX12_readPipe 57 = .ok (.bipush 6, 2) := by decide +kernel
theorem dX12_readPipe_59 : decode cX12_readPipe 59 = .ok (.iload_n 2, 1) := by decide +kernel
theorem dX12_readPipe_60 : decode cX12_readPipe 60 = .ok (.imul, 1) := by decide +kernel
theorem dX12_readPipe_61 : decode cX12_readPipe 61 = .ok (.iadd, 1) := by decide +kernel
theorem dX12_readPipe_62 : decode cX12_readPipe 62 = .ok (.iaload, 1) := by decide +kernel
theorem dX12_readPipe_63 : decode cX12_readPipe 63 = .ok (.bipush 12, 2) := by decide +kernel
theorem dX12_readPipe_65 : decode cX12_readPipe 65 = .ok (.aload_n 0, 1) := by decide +kernel
theorem dX12_readPipe_66 : decode cX12_readPipe 66 = .ok (.getfield 149, 3) := by decide +kernel
theorem dX12_readPipe_69 : decode cX12_readPipe 69 = .ok (.imul, 1) := by decide +kernel
theorem dX12_readPipe_70 : decode cX12_readPipe 70 = .ok (.iload_n 1, 1) := by decide +kernel
theorem dX12_readPipe_71 : decode cX12_readPipe 71 = .ok (.iadd, 1) := by decide +kernel
theorem dX12_readPipe_72 : decode cX12_readPipe 72 = .ok (.if_icmp .ne 8, 3) := by decide +kernel
theorem dX12_readPipe_75 : decode cX12_readPipe 75 = .ok (.aload_n 0, 1) := by decide +kernel
theorem dX12_readPipe_76 : decode cX12_readPipe 76 = .ok (.iconst 2, 1) := by decide +kernel
theorem dX12_readPipe_77 : decode cX12_readPipe 77 = .ok (.invokevirtual 184, 3) := by decide +kernel
theorem dX12_readPipe_80 : decode cX12_readPipe 80 = .ok (.iinc 2 1, 3) := by decide +kernel
theorem dX12_readPipe_83 : decode cX12_readPipe 83 = .ok (.goto (-43), 3) := by decide +kernel
theorem dX12_readPipe_86 : decode cX12_readPipe 86 = .ok (.aload_n 0, 1) := by decide +kernel
theorem dX12_readPipe_87 : decode cX12_readPipe 87 = .ok (.iconst 0, 1) := by decide +kernel
theorem dX12_readPipe_88 : decode cX12_readPipe 88 = .ok (.bipush 11, 2) := by decide +kernel
theorem dX12_readPipe_90 : decode cX12_readPipe 90 = .ok (.invokevirtual 192, 3) := by decide +kernel
theorem dX12_readPipe_93 : decode cX12_readPipe 93 = .ok (.istore_n 2, 1) := by decide +kernel
theorem dX12_readPipe_94 : decode cX12_readPipe 94 = .ok (.aload_n 0, 1) := by decide +kernel
theorem dX12_readPipe_95 : decode cX12_readPipe 95 = .ok (.ldc 238, 2) := by decide +kernel
theorem dX12_readPipe_97 : decode cX12_readPipe 97 = .ok (.sipush (-400), 3) := by decide +kernel
theorem dX12_readPipe_100 : decode cX12_readPipe 100 = .ok (.invokevirtual 212, 3) := by decide +kernel
theorem dX12_readPipe_103 : decode cX12_readPipe 103 = .ok (.istore_n 3, 1) := by decide +kernel
theorem dX12_readPipe_104 : decode cX12_readPipe 104 = .ok (.aload_n 0, 1) := by decide +kernel
theorem dX12_readPipe_105 : decode cX12_readPipe 105 = .ok (.ldc 200, 2) := by decide +kernel
theorem dX12_readPipe_107 : decode cX12_readPipe 107 = .ok (.iconst 0, 1) := by decide +kernel
theorem dX12_readPipe_108 : decode cX12_readPipe 108 = .ok (.bipush 60, 2) := by decide +kernel
theorem dX12_readPipe_110 : decode cX12_readPipe 110 = .ok (.invokevirtual 202, 3) := by decide +kernel
theorem dX12_readPipe_113 : decode cX12_readPipe 113 = .ok (.istore 4, 2) := by decide +kernel
theorem dX12_readPipe_115 : decode cX12_readPipe 115 = .ok (.aload_n 0, 1) := by decide +kernel
theorem dX12_readPipe_116 : decode cX12_readPipe 116 = .ok (.invokevirtual 161, 3) := by decide +kernel
theorem dX12_readPipe_119 : decode cX12_readPipe 119 = .ok (.ifCond .ne 4, 3) := by decide +kernel
theorem dX12_readPipe_122 : decode cX12_readPipe 122 = .ok (.return_, 1) := by decide +kernel
theorem dX12_readPipe_123 : decode cX12_readPipe 123 = .ok (.sipush 624, 3) := by decide +kernel
theorem dX12_readPipe_126 : decode cX12_readPipe 126 = .ok (.bipush 6, 2) := by decide +kernel
theorem dX12_readPipe_128 : decode cX12_readPipe 128 = .ok (.aload_n 0, 1) := by decide +kernel
theorem dX12_readPipe_129 : decode cX12_readPipe 129 = .ok (.getfield 37, 3) := by decide +kernel
theorem dX12_readPipe_132 : decode cX12_readPipe 132 = .ok (.iconst 2, 1) := by decide +kernel
theorem dX12_readPipe_133 : decode cX12_readPipe 133 = .ok (.iaload, 1) := by decide +kernel
theorem dX12_readPipe_134 : decode cX12_readPipe 134 = .ok (.imul, 1) := by decide +kernel
theorem dX12_readPipe_135 : decode cX12_readPipe 135 = .ok (.iadd, 1) := by decide +kernel
theorem dX12_readPipe_136 : decode cX12_readPipe 136 = .ok (.istore 5, 2) := by decide +kernel
theorem dX12_readPipe_138 : decode cX12_readPipe 138 = .ok (.aload_n 0, 1) := by decide +kernel
theorem dX12_readPipe_139 : decode cX12_readPipe 139 = .ok (.getfield 37, 3) := by decide +kernel
theorem dX12_readPipe_142 : decode cX12_readPipe 142 = .ok (.iload 5, 2) := by decide +kernel
theorem dX12_readPipe_144 : decode cX12_readPipe 144 = .ok (.bipush 12, 2) := by decide +kernel
theorem dX12_readPipe_146 : decode cX12_readPipe 146 = .ok (.iload_n 2, 1) := by decide +kernel
theorem dX12_readPipe_147 : decode cX12_readPipe 147 = .ok (.imul, 1) := by decide +kernel
theorem dX12_readPipe_148 : decode cX12_readPipe 148 = .ok (.iload_n 1, 1) := by decide +kernel
theorem dX12_readPipe_149 : decode cX12_readPipe 149 = .ok (.iadd, 1) := by decide +kernel
theorem dX12_readPipe_150 : decode cX12_readPipe 150 = .ok (.iastore, 1) := by decide +kernel
theorem dX12_readPipe_151 : decode cX12_readPipe 151 = .ok (.aload_n 0, 1) := by decide +kernel
theorem dX12_readPipe_152 : decode cX12_readPipe 152 = .ok (.getfield 37, 3) := by decide +kernel
theorem dX12_readPipe_155 : decode cX12_readPipe 155 = .ok (.iload 5, 2) := by decide +kernel
theorem dX12_readPipe_157 : decode cX12_readPipe 157 = .ok (.iconst 1, 1) := by decide +kernel
theorem dX12_readPipe_158 : decode cX12_readPipe 158 = .ok (.iadd, 1) := by decide +kernel
theorem dX12_readPipe_159 : decode cX12_readPipe 159 = .ok (.iload_n 3, 1) := by decide +kernel
theorem dX12_readPipe_160 : decode cX12_readPipe 160 = .ok (.iastore, 1) := by decide +kernel
theorem dX12_readPipe_161 : decode cX12_readPipe 161 = .ok (.aload_n 0, 1) := by decide +kernel
theorem dX12_readPipe_162 : decode cX12_readPipe 162 = .ok (.getfield 37, 3) := by decide +kernel
theorem dX12_readPipe_165 : decode cX12_readPipe 165 = .ok (.iload 5, 2) := by decide +kernel
theorem dX12_readPipe_167 : decode cX12_readPipe 167 = .ok (.iconst 2, 1) := by decide +kernel
theorem dX12_readPipe_168 : decode cX12_readPipe 168 = .ok (.iadd, 1) := by decide +kernel
theorem dX12_readPipe_169 : decode cX12_readPipe 169 = .ok (.iload 4, 2) := by decide +kernel
theorem dX12_readPipe_171 : decode cX12_readPipe 171 = .ok (.iastore, 1) := by decide +kernel
theorem dX12_readPipe_172 : decode cX12_readPipe 172 = .ok (.aload_n 0, 1) := by decide +kernel
theorem dX12_readPipe_173 : decode cX12_readPipe 173 = .ok (.getfield 37, 3) := by decide +kernel
theorem dX12_readPipe_176 : decode cX12_readPipe 176 = .ok (.iload 5, 2) := by decide +kernel
theorem dX12_readPipe_178 : decode cX12_readPipe 178 = .ok (.iconst 3, 1) := by decide +kernel
theorem dX12_readPipe_179 : decode cX12_readPipe 179 = .ok (.iadd, 1) := by decide +kernel
theorem dX12_readPipe_180 : decode cX12_readPipe 180 = .ok (.iconst 1, 1) := by decide +kernel
theorem dX12_readPipe_181 : decode cX12_readPipe 181 = .ok (.iastore, 1) := by decide +kernel
theorem dX12_readPipe_182 : decode cX12_readPipe 182 = .ok (.aload_n 0, 1) := by decide +kernel
theorem dX12_readPipe_183 : decode cX12_readPipe 183 = .ok (.getfield 37, 3) := by decide +kernel
theorem dX12_readPipe_186 : decode cX12_readPipe 186 = .ok (.iconst 2, 1) := by decide +kernel
theorem dX12_readPipe_187 : decode cX12_readPipe 187 = .ok (.dup2, 1) := by decide +kernel
theorem dX12_readPipe_188 : decode cX12_readPipe 188 = .ok (.iaload, 1) := by decide +kernel
theorem dX12_readPipe_189 : decode cX12_readPipe 189 = .ok (.iconst 1, 1) := by decide +kernel
theorem dX12_readPipe_190 : decode cX12_readPipe 190 = .ok (.iadd, 1) := by decide +kernel
theorem dX12_readPipe_191 : decode cX12_readPipe 191 = .ok (.iastore, 1) := by decide +kernel
theorem dX12_readPipe_192 : decode cX12_readPipe 192 = .ok (.return_, 1) := by decide +kernel
theorem cw_X12_readPipe_192 : CwV mi_X12_readPipe mi_X12_number yX12_number RX12 192 2 := ⟨⟨w_1434, w_1436, w_52, w_108, w_1437⟩, ⟨by decide, by decide⟩, by decide +kernel, by decide, by decide⟩
theorem cw_X12_readPipe_212 : CwV mi_X12_readPipe mi_X12_below yX12_below RX12 212 2 := ⟨⟨w_1450, w_1452, w_55, w_108, w_1453⟩, ⟨by decide, by decide⟩, by decide +kernel, by decide, by decide⟩
theorem cw_X12_readPipe_202 : CwV mi_X12_readPipe mi_X12_told yX12_told RX12 202 3 := ⟨⟨w_1439, w_1441, w_53, w_108, w_1442⟩, ⟨by decide, by decide⟩, by decide +kernel, by decide, by decide⟩
theorem cw_X12_readPipe_161 : CwV mi_X12_readPipe mi_X12_good yX12_good RX12 161 0 := ⟨⟨w_1398, w_1400, w_46, w_108, w_1401⟩, ⟨by decide, by decide⟩, by decide +kernel, by decide, by decide⟩
theorem cw_X12_readPipe_184 : CwV mi_X12_readPipe mi_X12_wrong yX12_wrong RX12 184 1 := ⟨⟨w_1421, w_1423, w_49, w_108, w_1424⟩, ⟨by decide, by decide⟩, by decide +kernel, by decide, by decide⟩
theorem cw_X12_readPipe_110 : CwS mi_X12_readPipe mi_X12_in yX12_in 110 3 := ⟨⟨w_1365, w_1366, w_108, w_1367⟩, ⟨by decide, by decide⟩, by decide +kernel, by decide, by decide⟩
theorem j_X12_readPipe_B86 {l : Launch} {Γ : Am}   : ∀ (r0 : Nat) (v1 : Int32) (z : Hp), J l Γ mi_X12_readPipe cvV 0 0 86 [(0, .ref (mB Γ + r0)), (1, .int v1)] [] z (m_X12_readPipe_B86  r0 v1 z) := by
  intro r0 v1 z
  unfold m_X12_readPipe_B86
  refine j_aload_n (pc := 86) 0 dX12_readPipe_86 rfl rfl ?_
  refine j_iconst (pc := 87) (v := 0) dX12_readPipe_87 (by decide) ?_
  refine j_bipush (pc := 88) (v := 11) dX12_readPipe_88 (by decide) ?_
  refine j_isC (fun h3 => ?_)
  refine j_callV_I (pc := 90) (as := [.int 0, .int 11]) (mc2 := 0) (ms2 := 0) (ct_X12_number _ _ _ _) h3 rfl cw_X12_readPipe_192 dX12_readPipe_90 (Nat.le_of_ble_eq_true rfl) rfl (by decide) (by decide) (fun x2 z1 => ?_)
  refine j_istore_n (pc := 93) (lv2 := [(2, .int x2), (0, .ref (mB Γ + r0)), (1, .int v1)]) dX12_readPipe_93 rfl (by decide) rfl ?_
  refine j_aload_n (pc := 94) 1 dX12_readPipe_94 rfl rfl ?_
  refine j_ldcS (pc := 95) (w := 39) (tx := "at") dX12_readPipe_95 (by decide +kernel) ?_
  refine j_sipush (pc := 97) (v := (-400)) dX12_readPipe_97 (by decide) ?_
  refine j_isC (fun h6 => ?_)
  refine j_callV_I (pc := 100) (as := [.ref (mT Γ 39), .int (-400)]) (mc2 := 0) (ms2 := 0) (ct_X12_below _ _ _ _) h6 rfl cw_X12_readPipe_212 dX12_readPipe_100 (Nat.le_of_ble_eq_true rfl) rfl (by decide) (by decide) (fun x5 z4 => ?_)
  refine j_istore_n (pc := 103) (lv2 := [(3, .int x5), (2, .int x2), (0, .ref (mB Γ + r0)), (1, .int v1)]) dX12_readPipe_103 rfl (by decide) rfl ?_
  refine j_aload_n (pc := 104) 2 dX12_readPipe_104 rfl rfl ?_
  refine j_ldcS (pc := 105) (w := 33) (tx := "lead") dX12_readPipe_105 (by decide +kernel) ?_
  refine j_iconst (pc := 107) (v := 0) dX12_readPipe_107 (by decide) ?_
  refine j_bipush (pc := 108) (v := 60) dX12_readPipe_108 (by decide) ?_
  refine j_isC (fun h9 => ?_)
  refine j_callV_I (pc := 110) (as := [.ref (mT Γ 33), .int 0, .int 60]) (mc2 := 0) (ms2 := 0) (ct_X12_told _ _ _ _ _) h9 rfl cw_X12_readPipe_202 dX12_readPipe_110 (Nat.le_of_ble_eq_true rfl) rfl (by decide) (by decide) (fun x8 z7 => ?_)
  refine j_istore (pc := 113) (lv2 := [(4, .int x8), (3, .int x5), (2, .int x2), (0, .ref (mB Γ + r0)), (1, .int v1)]) dX12_readPipe_113 (by decide) rfl ?_
  refine j_aload_n (pc := 115) 3 dX12_readPipe_115 rfl rfl ?_
  refine j_isC (fun h12 => ?_)
  refine j_callV_I (pc := 116) (as := []) (mc2 := 0) (ms2 := 0) (ct_X12_good _ _) h12 rfl cw_X12_readPipe_161 dX12_readPipe_116 (Nat.le_of_ble_eq_true rfl) rfl (by decide) (by decide) (fun x11 z10 => ?_)
  refine j_if_ne (pc := 119) 123 dX12_readPipe_119 (by decide) ?_ ?_
  · refine j_sipush (pc := 123) (v := 624) dX12_readPipe_123 (by decide) ?_
    refine j_bipush (pc := 126) (v := 6) dX12_readPipe_126 (by decide) ?_
    refine j_aload_n (pc := 128) 3 dX12_readPipe_128 rfl rfl ?_
    refine j_getR (pc := 129) ok_X12 (by decide) rfl w_1253 dX12_readPipe_129 (fun a13 => ?_)
    refine j_iconst (pc := 132) (v := 2) dX12_readPipe_132 (by decide) ?_
    refine j_iaload (pc := 133) dX12_readPipe_133 (fun x14 => ?_)
    refine j_imul (pc := 134) dX12_readPipe_134 ?_
    refine j_iadd (pc := 135) dX12_readPipe_135 ?_
    refine j_istore (pc := 136) (lv2 := [(5, .int (624 + (6 * x14))), (4, .int x8), (3, .int x5), (2, .int x2), (0, .ref (mB Γ + r0)), (1, .int v1)]) dX12_readPipe_136 (by decide) rfl ?_
    refine j_aload_n (pc := 138) 4 dX12_readPipe_138 rfl rfl ?_
    refine j_getR (pc := 139) ok_X12 (by decide) rfl w_1253 dX12_readPipe_139 (fun a15 => ?_)
    refine j_iload (pc := 142) 0 dX12_readPipe_142 rfl ?_
    refine j_bipush (pc := 144) (v := 12) dX12_readPipe_144 (by decide) ?_
    refine j_iload_n (pc := 146) 3 dX12_readPipe_146 rfl rfl ?_
    refine j_imul (pc := 147) dX12_readPipe_147 ?_
    refine j_iload_n (pc := 148) 5 dX12_readPipe_148 rfl rfl ?_
    refine j_iadd (pc := 149) dX12_readPipe_149 ?_
    refine j_iastore (pc := 150) dX12_readPipe_150 (fun z16 => ?_)
    refine j_aload_n (pc := 151) 4 dX12_readPipe_151 rfl rfl ?_
    refine j_getR (pc := 152) ok_X12 (by decide) rfl w_1253 dX12_readPipe_152 (fun a17 => ?_)
    refine j_iload (pc := 155) 0 dX12_readPipe_155 rfl ?_
    refine j_iconst (pc := 157) (v := 1) dX12_readPipe_157 (by decide) ?_
    refine j_iadd (pc := 158) dX12_readPipe_158 ?_
    refine j_iload_n (pc := 159) 2 dX12_readPipe_159 rfl rfl ?_
    refine j_iastore (pc := 160) dX12_readPipe_160 (fun z18 => ?_)
    refine j_aload_n (pc := 161) 4 dX12_readPipe_161 rfl rfl ?_
    refine j_getR (pc := 162) ok_X12 (by decide) rfl w_1253 dX12_readPipe_162 (fun a19 => ?_)
    refine j_iload (pc := 165) 0 dX12_readPipe_165 rfl ?_
    refine j_iconst (pc := 167) (v := 2) dX12_readPipe_167 (by decide) ?_
    refine j_iadd (pc := 168) dX12_readPipe_168 ?_
    refine j_iload (pc := 169) 1 dX12_readPipe_169 rfl ?_
    refine j_iastore (pc := 171) dX12_readPipe_171 (fun z20 => ?_)
    refine j_aload_n (pc := 172) 4 dX12_readPipe_172 rfl rfl ?_
    refine j_getR (pc := 173) ok_X12 (by decide) rfl w_1253 dX12_readPipe_173 (fun a21 => ?_)
    refine j_iload (pc := 176) 0 dX12_readPipe_176 rfl ?_
    refine j_iconst (pc := 178) (v := 3) dX12_readPipe_178 (by decide) ?_
    refine j_iadd (pc := 179) dX12_readPipe_179 ?_
    refine j_iconst (pc := 180) (v := 1) dX12_readPipe_180 (by decide) ?_
    refine j_iastore (pc := 181) dX12_readPipe_181 (fun z22 => ?_)
    refine j_aload_n (pc := 182) 4 dX12_readPipe_182 rfl rfl ?_
    refine j_getR (pc := 183) ok_X12 (by decide) rfl w_1253 dX12_readPipe_183 (fun a23 => ?_)
    refine j_iconst (pc := 186) (v := 2) dX12_readPipe_186 (by decide) ?_
    refine j_dup2 (pc := 187) dX12_readPipe_187 rfl rfl ?_
    refine j_iaload (pc := 188) dX12_readPipe_188 (fun x24 => ?_)
    refine j_iconst (pc := 189) (v := 1) dX12_readPipe_189 (by decide) ?_
    refine j_iadd (pc := 190) dX12_readPipe_190 ?_
    refine j_iastore (pc := 191) dX12_readPipe_191 (fun z25 => ?_)
    exact j_return (pc := 192) dX12_readPipe_192 rfl
  exact j_return (pc := 122) dX12_readPipe_122 rfl
theorem j_X12_readPipe_B80 {l : Launch} {Γ : Am} {k40 : Nat → Int32 → Int32 → Hp → Option (Unit × Hp)} (hL40 : ∀ (r0 : Nat) (v1 : Int32) (v2 : Int32) (z : Hp), J l Γ mi_X12_readPipe cvV 0 0 40 [(0, .ref (mB Γ + r0)), (1, .int v1), (2, .int v2)] [] z (k40 r0 v1 v2 z)) : ∀ (r0 : Nat) (v1 : Int32) (v2 : Int32) (z : Hp), J l Γ mi_X12_readPipe cvV 0 0 80 [(0, .ref (mB Γ + r0)), (1, .int v1), (2, .int v2)] [] z (m_X12_readPipe_B80 k40 r0 v1 v2 z) := by
  intro r0 v1 v2 z
  unfold m_X12_readPipe_B80
  refine j_iinc (pc := 80) (n0 := 2) (v0 := v2 + 1) (lv2 := [(2, .int (v2 + 1)), (0, .ref (mB Γ + r0)), (1, .int v1)]) dX12_readPipe_80 rfl rfl (by decide) rfl ?_
  refine j_goto (pc := 83) 40 dX12_readPipe_83 (by decide) ?_
  exact J.sub [1, 2, 0] rfl (hL40 r0 v1 (v2 + 1) z)
theorem j_X12_readPipe_L40 {l : Launch} {Γ : Am} {k86 : Nat → Int32 → Hp → Option (Unit × Hp)} (hL86 : ∀ (r0 : Nat) (v1 : Int32) (z : Hp), J l Γ mi_X12_readPipe cvV 0 0 86 [(0, .ref (mB Γ + r0)), (1, .int v1)] [] z (k86 r0 v1 z)) : ∀ (f : Nat), ∀ (r0 : Nat) (v1 : Int32) (v2 : Int32) (z : Hp), J l Γ mi_X12_readPipe cvV 0 0 40 [(0, .ref (mB Γ + r0)), (1, .int v1), (2, .int v2)] [] z (m_X12_readPipe_L40 k86 f r0 v1 v2 z) := by
  intro f
  induction f with
  | zero => intro r0 v1 v2 z; exact J.none
  | succ f hL40 =>
    intro r0 v1 v2 z
    rw [m_X12_readPipe_L40]
    refine j_iload_n (pc := 40) 2 dX12_readPipe_40 rfl rfl ?_
    refine j_aload_n (pc := 41) 0 dX12_readPipe_41 rfl rfl ?_
    refine j_getR (pc := 42) ok_X12 (by decide) rfl w_1253 dX12_readPipe_42 (fun a26 => ?_)
    refine j_iconst (pc := 45) (v := 2) dX12_readPipe_45 (by decide) ?_
    refine j_iaload (pc := 46) dX12_readPipe_46 (fun x27 => ?_)
    refine j_icmp_ge (pc := 47) 86 dX12_readPipe_47 (by decide) ?_ ?_
    · exact J.sub [0, 1] rfl (hL86 r0 v1 z)
    refine j_aload_n (pc := 50) 0 dX12_readPipe_50 rfl rfl ?_
    refine j_getR (pc := 51) ok_X12 (by decide) rfl w_1253 dX12_readPipe_51 (fun a28 => ?_)
    refine j_sipush (pc := 54) (v := 624) dX12_readPipe_54 (by decide) ?_
    refine j_bipush (pc := 57) (v := 6) dX12_readPipe_57 (by decide) ?_
    refine j_iload_n (pc := 59) 2 dX12_readPipe_59 rfl rfl ?_
    refine j_imul (pc := 60) dX12_readPipe_60 ?_
    refine j_iadd (pc := 61) dX12_readPipe_61 ?_
    refine j_iaload (pc := 62) dX12_readPipe_62 (fun x29 => ?_)
    refine j_bipush (pc := 63) (v := 12) dX12_readPipe_63 (by decide) ?_
    refine j_aload_n (pc := 65) 0 dX12_readPipe_65 rfl rfl ?_
    refine j_getI (pc := 66) ok_X12 (by decide) rfl w_1250 dX12_readPipe_66 (fun x30 => ?_)
    refine j_imul (pc := 69) dX12_readPipe_69 ?_
    refine j_iload_n (pc := 70) 1 dX12_readPipe_70 rfl rfl ?_
    refine j_iadd (pc := 71) dX12_readPipe_71 ?_
    refine j_icmp_ne (pc := 72) 80 dX12_readPipe_72 (by decide) ?_ ?_
    · exact J.sub [0, 1, 2] rfl ((j_X12_readPipe_B80 hL40) r0 v1 v2 z)
    refine j_aload_n (pc := 75) 0 dX12_readPipe_75 rfl rfl ?_
    refine j_iconst (pc := 76) (v := 2) dX12_readPipe_76 (by decide) ?_
    refine j_isC (fun h32 => ?_)
    refine j_callV_V (pc := 77) (as := [.int 2]) (mc2 := 0) (ms2 := 0) (ct_X12_wrong _ _ _) h32 rfl cw_X12_readPipe_184 dX12_readPipe_77 (Nat.le_of_ble_eq_true rfl) rfl (by decide) (by decide) (fun _ z31 => ?_)
    exact J.sub [0, 1, 2] rfl ((j_X12_readPipe_B80 hL40) r0 v1 v2 z31)
theorem ct_X12_readPipe {l : Launch} {Γ : Am} (r0 : Nat) (z : Hp) : Ct l Γ yX12_readPipe mi_X12_readPipe cvV [.ref (mB Γ + r0)] z (m_X12_readPipe r0 z) := by
  refine Ct.ofJ (by decide) ⟨rfl, rfl⟩ (Nat.le_of_ble_eq_true rfl) ?_
  unfold m_X12_readPipe
  show J l Γ mi_X12_readPipe cvV 0 0 0 [(0, .ref (mB Γ + r0))] [] z _
  refine j_aload_n (pc := 0) 0 dX12_readPipe_0 rfl rfl ?_
  refine j_iconst (pc := 1) (v := 0) dX12_readPipe_1 (by decide) ?_
  refine j_bipush (pc := 2) (v := 11) dX12_readPipe_2 (by decide) ?_
  refine j_isC (fun h35 => ?_)
  refine j_callV_I (pc := 4) (as := [.int 0, .int 11]) (mc2 := 0) (ms2 := 0) (ct_X12_number _ _ _ _) h35 rfl cw_X12_readPipe_192 dX12_readPipe_4 (Nat.le_of_ble_eq_true rfl) rfl (by decide) (by decide) (fun x34 z33 => ?_)
  refine j_istore_n (pc := 7) (lv2 := [(1, .int x34), (0, .ref (mB Γ + r0))]) dX12_readPipe_7 rfl (by decide) rfl ?_
  refine j_aload_n (pc := 8) 1 dX12_readPipe_8 rfl rfl ?_
  refine j_isC (fun h38 => ?_)
  refine j_callV_I (pc := 9) (as := []) (mc2 := 0) (ms2 := 0) (ct_X12_good _ _) h38 rfl cw_X12_readPipe_161 dX12_readPipe_9 (Nat.le_of_ble_eq_true rfl) rfl (by decide) (by decide) (fun x37 z36 => ?_)
  refine j_if_eq (pc := 12) 86 dX12_readPipe_12 (by decide) ?_ ?_
  · exact J.sub [1, 0] rfl (j_X12_readPipe_B86 r0 x34 z36)
  refine j_aload_n (pc := 15) 1 dX12_readPipe_15 rfl rfl ?_
  refine j_getI (pc := 16) ok_X12 (by decide) rfl w_1249 dX12_readPipe_16 (fun x39 => ?_)
  refine j_iconst (pc := 19) (v := 2) dX12_readPipe_19 (by decide) ?_
  refine j_icmp_ne (pc := 20) 86 dX12_readPipe_20 (by decide) ?_ ?_
  · exact J.sub [1, 0] rfl (j_X12_readPipe_B86 r0 x34 z36)
  refine j_aload_n (pc := 23) 1 dX12_readPipe_23 rfl rfl ?_
  refine j_getI (pc := 24) ok_X12 (by decide) rfl w_1250 dX12_readPipe_24 (fun x40 => ?_)
  refine j_i2l (pc := 27) dX12_readPipe_27 ?_
  refine j_lconst (pc := 28) (v := 0) dX12_readPipe_28 (by decide) ?_
  refine j_ldc2 (pc := 29) (v := 11) dX12_readPipe_29 w_1471 ?_
  refine j_callS_I (pc := 32) (as := [.long (Int32.toInt64 x40), .long 0, .long 11]) (mc2 := 0) (ms2 := 0) (ct_X12_in _ _ _ _) cw_X12_readPipe_110 dX12_readPipe_32 (Nat.le_of_ble_eq_true rfl) rfl (by decide) (by decide) (fun x42 z41 => ?_)
  refine j_if_eq (pc := 35) 86 dX12_readPipe_35 (by decide) ?_ ?_
  · exact J.sub [1, 0] rfl (j_X12_readPipe_B86 r0 x34 z41)
  refine j_iconst (pc := 38) (v := 0) dX12_readPipe_38 (by decide) ?_
  refine j_istore_n (pc := 39) (lv2 := [(2, .int 0), (1, .int x34), (0, .ref (mB Γ + r0))]) dX12_readPipe_39 rfl (by decide) rfl ?_
  exact J.sub [2, 1, 0] rfl ((j_X12_readPipe_L40 j_X12_readPipe_B86 FU) r0 x34 0 z41)
