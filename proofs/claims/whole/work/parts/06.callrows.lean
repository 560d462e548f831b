def cpI {α : Type} (z : Hp) (a0 : Nat) (sp : Int32) (a : Nat) (dp n : Int32) (f : Hp → Option α) : Option α := if ((zK z a0).1 = 1 ∧ (zK z a).1 = 1) ∧ (¬ sp < 0 ∧ ¬ dp < 0 ∧ ¬ n < 0) ∧ sp.toNatClampNeg + n.toNatClampNeg ≤ (zK z a0).2 ∧ dp.toNatClampNeg + n.toNatClampNeg ≤ (zK z a).2 then f (wI z a (va_cpy (zI z a0) (zI z a) sp.toNatClampNeg dp.toNatClampNeg n.toNatClampNeg)) else none
def cpL {α : Type} (z : Hp) (a0 : Nat) (sp : Int32) (a : Nat) (dp n : Int32) (f : Hp → Option α) : Option α := if ((zK z a0).1 = 4 ∧ (zK z a).1 = 4) ∧ (¬ sp < 0 ∧ ¬ dp < 0 ∧ ¬ n < 0) ∧ sp.toNatClampNeg + n.toNatClampNeg ≤ (zK z a0).2 ∧ dp.toNatClampNeg + n.toNatClampNeg ≤ (zK z a).2 then f (wL z a (va_cpy (zL z a0) (zL z a) sp.toNatClampNeg dp.toNatClampNeg n.toNatClampNeg)) else none
/-- new long[4][60] and its like: the rows behind the outer array -/
def zRows : Nat → Hp → Nat → Hp
  | 0, z, _ => z
  | n + 1, z, k => zNew (zRows n z k) 4 k
def zNew2 (z : Hp) (n k : Nat) : Hp := wR (zRows n (zNew z 6 n) k) (zN z) (fun i => if i < n then some (zN z + 1 + i) else none)
/-- a new cell -/
def nwC {α : Type} (k n : Nat) (z : Hp) (f : Nat → Hp → Option α) : Option α := f (zN z) (zNew z k n)
def nw2 {α : Type} (n k : Nat) (z : Hp) (f : Nat → Hp → Option α) : Option α := f (zN z) (zNew2 z n k)
section JCALL
variable {l : Launch} {Γ : Am} {M : Mi} {ρ : Type} {cv : ρ → Option Value} {mc ms pc : Nat} {lv : List (Nat × Value)} {st stk : List Value} {z : Hp} {t : Option (ρ × Hp)} {C : String} {T : u_T} {N : Nat} {ty : Nat → FieldType} {a c k idx : Nat}
theorem W.nret {p : Program} {l : Launch} {e : Env} {R : Room} {s : State} {m : MethodId} {args : Array Value} {below : List Frame} {meth : Method} {c : Code} {H : Heap} {locs : List Loc} {cells slots : Nat} {cc : ByteArray} {Qc : Array Value → State → Outcome → State → Prop} {free : Addr → Prop} {v w : Int32} {ty : FieldType} (hexec : p.tables.exec = Jvm.exec) (hb : c.code = cc) (hr : meth.sig.returnType = some ty) (hn : narrow ty (.int v) = .int w)
    (hq : ∀ t : State, t.heap = H → s.WarmedH t.vm → Qc args s (.returned (some (.int w))) t) (hf : ∀ q ∈ locs, free q.base)
    {pc : Nat} {ls : Array Slot} (hdg : decode cc pc = .ok (.ireturn, 1)) (hlocks : meth.locks = false) : W p l e R s m args below meth c H locs cells slots (MQ below Qc args s cells slots free) (F0 m pc ls [.int v]) := by
  intro T hT X
  obtain ⟨fs, hret, hrun, hended, hW, hframe⟩ := X.leave (v := some (.int w)) (fun h => by rw [hr] at h; cases h)
  have hmeth' : T.vm.method? m = some meth := X.method'
  refine ⟨T.setFrames fs, ?_, .returned (some (.int w)), hrun, hended, hq _ hT hW, locs, ⟨⟨_, rfl⟩, hW, hframe⟩, hf⟩
  jvm_step X.here [X.here.top, hexec, hb, hdg, hmeth', hr, hn]
  (try refine ⟨rfl, ?_⟩); (try refine ⟨rfl, ?_⟩)
  first | (intro acts; rw [hret _ acts rfl rfl rfl]) | rw [hret _ _ rfl rfl rfl]
  exact Steps.refl _
theorem j_ireturn {x : Int32} {rt : FieldType} (hd : decode M.2.1 pc = .ok (.ireturn, 1)) (hr : M.2.2.2.1 = some rt) (hn : narrow rt (.int x) = .int x) : J l Γ M cvI mc ms pc lv [.int x] z (some (x, z)) := by
  intro v z1 ht p e s m args below meth c0 H locs cells slots ls hC hK hv hR hL h1 h2
  cases ht
  refine W.widen (k := M.2.2.2.2.2.cells) (n := M.2.2.2.2.2.slots) (by omega) (by omega) ?_
  exact W.zret hC.1 hC.2.1 (hC.2.2.2.2.1.trans hr) hn (fun t ht hW => ⟨rfl, by rw [ht]; exact hR⟩) hL hd hC.2.2.2.2.2.1
theorem j_zreturn {x : Int32} (hd : decode M.2.1 pc = .ok (.ireturn, 1)) (hr : M.2.2.2.1 = some .boolean) : J l Γ M cvI mc ms pc lv [.int x] z (some (vp_nar .boolean x, z)) := by
  intro v z1 ht p e s m args below meth c0 H locs cells slots ls hC hK hv hR hL h1 h2
  cases ht
  refine W.widen (k := M.2.2.2.2.2.cells) (n := M.2.2.2.2.2.slots) (by omega) (by omega) ?_
  exact W.nret hC.1 hC.2.1 (hC.2.2.2.2.1.trans hr) rfl (fun t ht hW => ⟨rfl, by rw [ht]; exact hR⟩) hL hd hC.2.2.2.2.2.1
theorem j_lreturn {x : Int64} (hd : decode M.2.1 pc = .ok (.lreturn, 1)) (hr : M.2.2.2.1 = some .long) : J l Γ M cvL mc ms pc lv [.long x] z (some (x, z)) := by
  intro v z1 ht p e s m args below meth c0 H locs cells slots ls hC hK hv hR hL h1 h2
  cases ht
  refine W.widen (k := M.2.2.2.2.2.cells) (n := M.2.2.2.2.2.slots) (by omega) (by omega) ?_
  exact W.lret hC.1 hC.2.1 (hC.2.2.2.2.1.trans hr) (fun t ht hW => ⟨rfl, by rw [ht]; exact hR⟩) hL hd hC.2.2.2.2.2.1
theorem j_return (hd : decode M.2.1 pc = .ok (.return_, 1)) (hr : M.2.2.2.1 = none) : J l Γ M cvV mc ms pc lv [] z (some ((), z)) := by
  intro v z1 ht p e s m args below meth c0 H locs cells slots ls hC hK hv hR hL h1 h2
  cases ht
  refine W.widen (k := M.2.2.2.2.2.cells) (n := M.2.2.2.2.2.slots) (by omega) (by omega) ?_
  exact W.vret hC.1 hC.2.1 (hC.2.2.2.2.1.trans hr) (fun t ht hW => ⟨rfl, by rw [ht]; exact hR⟩) hL hd hC.2.2.2.2.2.1
/-- Object's own <init> -/
theorem j_objInit {x : Nat} (hl : Cond.methodLink M.1 idx Lib.objectInit ∈ gw) (hi : Cond.instanceMethod Lib.objectInit ∈ gw) (hc : Cond.code Lib.objectInit ⟨#[0xb1]⟩ 1 none ∈ gw) (hd : decode M.2.1 pc = .ok (.invokespecial idx, 3)) (hf : 1 ≤ M.2.2.2.2.2.frames) (ho : (st.map fun v => v.category).sum + 12 ≤ M.2.2.2.2.2.locals) (k : J l Γ M cv mc ms (pc + 3) lv st z t) : J l Γ M cv mc ms pc lv (.ref x :: st) z t :=
  J.go (fun p e s m args below meth c H locs cells slots ls Q hC hK hv hR hW => W.objInit hC.1 hC.2.1 hC.2.2.2.1 (hC.2.2.2.2.2.2.2 _ hl) (hC.2.2.2.2.2.2.2 _ hi) (hC.2.2.2.2.2.2.2 _ hc) rfl (hv.1.trans hC.2.2.1.symm) rfl hd hf (by show 2 * 0 + _ + 12 ≤ _; omega) hW) k
/-- a call that has run -/
theorem j_run {σ : Type} {cv' : σ → Option Value} {t1 : Option (σ × Hp)} {f : σ → Hp → Option (ρ × Hp)} {mc2 ms2 kc ks : Nat} {as : Array Value}
    (hrun : ∀ (r : σ) (z2 : Hp), t1 = some (r, z2) → ∀ (p : Program) (e : Env) (s : State) (m : MethodId) (args : Array Value) (below : List Frame) (meth : Method) (c0 : Code) (H : Heap) (locs : List Loc) (cells slots : Nat) (ls : Array Slot), Cx M p s m args meth c0 → Kw Γ s → lv_has ls M.2.2.1 lv → Rl Γ z H → cells + mc ≤ M.2.2.2.2.2.cells → slots + ms ≤ M.2.2.2.2.2.slots →
      va_Run p l e M.2.2.2.2.2 s m args below meth c0 H locs cells slots kc ks (F0 m pc ls stk) st (Qr Γ (cv' r) z2 as) (Own Γ)) (hmc : mc2 + kc ≤ mc) (hms : ms2 + ks ≤ ms) (kk : ∀ (r : σ) (z2 : Hp), J l Γ M cv mc2 ms2 (pc + 3) lv ((cv' r).toList ++ st) z2 (f r z2)) : J l Γ M cv mc ms pc lv stk z (bnd t1 f) := by
  intro v z1 ht p e s m args below meth c0 H locs cells slots ls hC hK hv hR hL h1 h2
  cases hq : t1 with
  | none => rw [hq] at ht; cases ht
  | some rz =>
    obtain ⟨r, z2⟩ := rz
    rw [hq] at ht
    have ht2 : f r z2 = some (v, z1) := ht
    intro T hT X
    obtain ⟨v', st₀, tt, T', L, h0, X', hL', e1, e2, ⟨hv', hRl⟩, stp⟩ := hrun r z2 hq p e s m args below meth c0 H locs cells slots ls hC hK hv hR h1 h2 T hT X
    cases hv'
    obtain ⟨t2, a1, b1⟩ := kk r z2 v z1 ht2 p e s m args below meth c0 T'.heap (locs ++ L) (cells + kc) (slots + ks) ls hC hK hv (by rw [e1]; exact hRl) (fun q hq => by
      rcases List.mem_append.mp hq with h | h
      · exact hL q h
      · exact hL' q h) (by omega) (by omega) T' rfl X'
    exact ⟨t2, stp t2 a1, b1⟩
/-- what a call needs of the words and the room: c the callee's class' name; V: virtual -/
def CwV (M M' : Mi) (y : MethodName) (C : String) (idx n : Nat) : Prop := (Cond.methodLink M.1 idx y ∈ gw ∧ Cond.instanceMethod y ∈ gw ∧ Cond.selects C y y ∈ gw ∧ Cond.initialized y.cls ∈ gw ∧ Cond.code y M'.2.1 M'.2.2.1 M'.2.2.2.1 ∈ gw) ∧ (y.cls ≠ "java/lang/invoke/MethodHandle" ∧ y.cls ≠ "java/lang/invoke/VarHandle") ∧ (parseMethodDescriptor y.desc).map (fun d => d.parameters.length) = some n ∧ M'.2.2.2.2.2.frames + 1 ≤ M.2.2.2.2.2.frames ∧ 8 + (M'.2.2.1 + 11) + M'.2.2.2.2.2.locals ≤ M.2.2.2.2.2.locals
def CwS (M M' : Mi) (y : MethodName) (idx n : Nat) : Prop := (Cond.methodLink M.1 idx y ∈ gw ∧ Cond.static y ∈ gw ∧ Cond.initialized y.cls ∈ gw ∧ Cond.code y M'.2.1 M'.2.2.1 M'.2.2.2.1 ∈ gw) ∧ (y.cls ≠ "java/lang/invoke/MethodHandle" ∧ y.cls ≠ "java/lang/invoke/VarHandle") ∧ (parseMethodDescriptor y.desc).map (fun d => d.parameters.length) = some n ∧ M'.2.2.2.2.2.frames + 1 ≤ M.2.2.2.2.2.frames ∧ 8 + (M'.2.2.1 + 11) + M'.2.2.2.2.2.locals ≤ M.2.2.2.2.2.locals
def CwI (M M' : Mi) (y : MethodName) (idx n : Nat) : Prop := (Cond.methodLink M.1 idx y ∈ gw ∧ Cond.instanceMethod y ∈ gw ∧ Cond.initialized y.cls ∈ gw ∧ Cond.code y M'.2.1 M'.2.2.1 none ∈ gw ∧ M'.2.2.2.1 = none ∧ y.name = "<init>") ∧ (y.cls ≠ "java/lang/invoke/MethodHandle" ∧ y.cls ≠ "java/lang/invoke/VarHandle") ∧ (parseMethodDescriptor y.desc).map (fun d => d.parameters.length) = some n ∧ M'.2.2.2.2.2.frames + 1 ≤ M.2.2.2.2.2.frames ∧ 8 + (M'.2.2.1 + 11) + M'.2.2.2.2.2.locals ≤ M.2.2.2.2.2.locals
def CwSN (M M' : Mi) (y : MethodName) (idx n : Nat) (host : String) : Prop := (Cond.methodLinkNest M.1 idx y host ∈ nestW ∧ Cond.static y ∈ gw ∧ Cond.initialized y.cls ∈ gw ∧ Cond.code y M'.2.1 M'.2.2.1 M'.2.2.2.1 ∈ gw) ∧ (y.cls ≠ "java/lang/invoke/MethodHandle" ∧ y.cls ≠ "java/lang/invoke/VarHandle") ∧ (parseMethodDescriptor y.desc).map (fun d => d.parameters.length) = some n ∧ M'.2.2.2.2.2.frames + 1 ≤ M.2.2.2.2.2.frames ∧ 8 + (M'.2.2.1 + 11) + M'.2.2.2.2.2.locals ≤ M.2.2.2.2.2.locals
def CwIN (M M' : Mi) (y : MethodName) (idx n : Nat) (host : String) : Prop := (Cond.methodLinkNest M.1 idx y host ∈ nestW ∧ Cond.instanceMethod y ∈ gw ∧ Cond.initialized y.cls ∈ gw ∧ Cond.code y M'.2.1 M'.2.2.1 none ∈ gw ∧ M'.2.2.2.1 = none ∧ y.name = "<init>") ∧ (y.cls ≠ "java/lang/invoke/MethodHandle" ∧ y.cls ≠ "java/lang/invoke/VarHandle") ∧ (parseMethodDescriptor y.desc).map (fun d => d.parameters.length) = some n ∧ M'.2.2.2.2.2.frames + 1 ≤ M.2.2.2.2.2.frames ∧ 8 + (M'.2.2.1 + 11) + M'.2.2.2.2.2.locals ≤ M.2.2.2.2.2.locals
theorem cw_len {y : MethodName} {n : Nat} (h : (parseMethodDescriptor y.desc).map (fun d => d.parameters.length) = some n) : ∀ sig, parseMethodDescriptor y.desc = some sig → n = sig.parameters.length := fun sig hs => by
  rw [hs] at h
  exact (Option.some.inj h).symm
theorem cw_ws {p : Program} {s : State} {m : MethodId} {args : Array Value} {meth : Method} {c0 : Code} {y : MethodName} {M' : Mi} {rt : Option FieldType} (hC : Cx M p s m args meth c0) (hc : Cond.code y M'.2.1 M'.2.2.1 rt ∈ gw) : ∀ w ∈ Cond.code y M'.2.1 M'.2.2.1 rt :: gw, ∀ (a' : Array Value) (U : State), s.WarmedH U.vm → w.before a' U = true :=
  pay_in hC.2.2.2.2.2.2.2 (gw_sub (fun w hw => by
    rcases List.mem_cons.mp hw with h | h
    · rw [h]; exact hc
    · exact h))
theorem cw_blind {as : Array Value} : FrameBlind (fun (a : Array Value) (U : State) => a = as ∧ Rl Γ z U.heap ∧ Kw Γ U) := fun a U g mk q => ⟨q.1, q.2.1, Kw.same (s := U) (U := U.calling g mk a) rfl q.2.2⟩
variable {σ : Type} {cv' : σ → Option Value} {t1 : Option (σ × Hp)} {f : σ → Hp → Option (ρ × Hp)} {mc2 ms2 : Nat} {as : List Value} {y : MethodName} {M' : Mi}
theorem j_callV (hct : Ct l Γ y M' cv' (.ref (mB Γ + a) :: as) z t1) (hkd : (zK z a).1 = c + 7) (hc : cls_T[c]? = some (C, T, N)) (hw : CwV M M' y C idx as.length) (hd : decode M.2.1 pc = .ok (.invokevirtual idx, 3)) (hs : (st.map fun v => v.category).sum ≤ 8) (hstk : stk = as.reverse ++ .ref (mB Γ + a) :: st)
    (hmc : mc2 + M'.2.2.2.2.2.cells ≤ mc) (hms : ms2 + M'.2.2.2.2.2.slots ≤ ms) (kk : ∀ (r : σ) (z2 : Hp), J l Γ M cv mc2 ms2 (pc + 3) lv ((cv' r).toList ++ st) z2 (f r z2)) : J l Γ M cv mc ms pc lv stk z (bnd t1 f) := by
  refine j_run (cv' := cv') (kc := M'.2.2.2.2.2.cells) (ks := M'.2.2.2.2.2.slots) (as := (Value.ref (mB Γ + a) :: as).toArray) (fun r z2 h p e s m args below meth c0 H locs cells slots ls hC hK hv hR h1 h2 => ?_) hmc hms kk
  obtain ⟨⟨w1, w2, w3, w4, w5⟩, hy, hn, hf, hl⟩ := hw
  have hts := hC.2.2.2.2.2.2.2
  obtain ⟨cell, q1, q2, q3, -⟩ := hR.obj hkd
  exact va_runV (As := as) (rest := st) (C := C) (n := as.length) (nL := M.2.2.1) (Ts := gw) (own := M.1) ⟨hC.1, hC.2.1, hC.2.2.1, hC.2.2.2.1, hts⟩ (hct r z2 h) ⟨⟨rfl, rfl, hf, hl, cw_ws hC w5, List.mem_cons_self, hts _ w5, hts _ w4, hy, cw_len hn, hts _ w1⟩, hts _ w2, hts _ w3⟩
    ⟨cw_blind, ⟨cell, q1, by rw [q3]; rfl, by rw [q2]; exact (hK.1 c _ hc).2.1⟩, fun U hU hW => ⟨rfl, by rw [hU]; exact hR, hK.warm hW⟩⟩ rfl rfl hv.1 hstk (lv_room hs) hd ⟨by omega, by omega⟩
theorem j_callS (hct : Ct l Γ y M' cv' as z t1) (hw : CwS M M' y idx as.length) (hd : decode M.2.1 pc = .ok (.invokestatic idx, 3)) (hs : (st.map fun v => v.category).sum ≤ 8) (hstk : stk = as.reverse ++ st)
    (hmc : mc2 + M'.2.2.2.2.2.cells ≤ mc) (hms : ms2 + M'.2.2.2.2.2.slots ≤ ms) (kk : ∀ (r : σ) (z2 : Hp), J l Γ M cv mc2 ms2 (pc + 3) lv ((cv' r).toList ++ st) z2 (f r z2)) : J l Γ M cv mc ms pc lv stk z (bnd t1 f) := by
  refine j_run (cv' := cv') (kc := M'.2.2.2.2.2.cells) (ks := M'.2.2.2.2.2.slots) (as := as.toArray) (fun r z2 h p e s m args below meth c0 H locs cells slots ls hC hK hv hR h1 h2 => ?_) hmc hms kk
  obtain ⟨⟨w1, w3, w4, w5⟩, hy, hn, hf, hl⟩ := hw
  have hts := hC.2.2.2.2.2.2.2
  exact va_runS (As := as) (rest := st) (n := as.length) (nL := M.2.2.1) (Ts := gw) (own := M.1) ⟨hC.1, hC.2.1, hC.2.2.1, hC.2.2.2.1, hts⟩ (hct r z2 h) ⟨⟨rfl, rfl, hf, hl, cw_ws hC w5, List.mem_cons_self, hts _ w5, hts _ w4, hy, cw_len hn, hts _ w1⟩, hts _ w3⟩
    ⟨cw_blind, fun U hU hW => ⟨rfl, by rw [hU]; exact hR, hK.warm hW⟩⟩ rfl rfl hv.1 hstk (lv_room hs) hd ⟨by omega, by omega⟩
theorem j_callI (hct : Ct l Γ y M' cv' (.ref (mB Γ + a) :: as) z t1) (hw : CwI M M' y idx as.length) (hd : decode M.2.1 pc = .ok (.invokespecial idx, 3)) (hs : (st.map fun v => v.category).sum ≤ 8) (hstk : stk = as.reverse ++ .ref (mB Γ + a) :: st)
    (hmc : mc2 + M'.2.2.2.2.2.cells ≤ mc) (hms : ms2 + M'.2.2.2.2.2.slots ≤ ms) (kk : ∀ (r : σ) (z2 : Hp), J l Γ M cv mc2 ms2 (pc + 3) lv ((cv' r).toList ++ st) z2 (f r z2)) : J l Γ M cv mc ms pc lv stk z (bnd t1 f) := by
  refine j_run (cv' := cv') (kc := M'.2.2.2.2.2.cells) (ks := M'.2.2.2.2.2.slots) (as := (Value.ref (mB Γ + a) :: as).toArray) (fun r z2 h p e s m args below meth c0 H locs cells slots ls hC hK hv hR h1 h2 => ?_) hmc hms kk
  obtain ⟨⟨w1, w2, w4, w5, w6, w7⟩, hy, hn, hf, hl⟩ := hw
  have hts := hC.2.2.2.2.2.2.2
  have hM := hct r z2 h
  rw [w6] at hM
  exact va_runI (As := as) (rest := st) (n := as.length) (nL := M.2.2.1) (Ts := gw) (own := M.1) ⟨hC.1, hC.2.1, hC.2.2.1, hC.2.2.2.1, hts⟩ hM ⟨⟨rfl, rfl, hf, hl, cw_ws hC w5, List.mem_cons_self, hts _ w5, hts _ w4, hy, cw_len hn, hts _ w1⟩, w7, hts _ w2⟩
    ⟨cw_blind, fun U hU hW => ⟨rfl, by rw [hU]; exact hR, hK.warm hW⟩⟩ rfl rfl hv.1 hstk (lv_room hs) hd ⟨by omega, by omega⟩
theorem j_callSN {host : String} (hct : Ct l Γ y M' cv' as z t1) (hw : CwSN M M' y idx as.length host) (hd : decode M.2.1 pc = .ok (.invokestatic idx, 3)) (hs : (st.map fun v => v.category).sum ≤ 8) (hstk : stk = as.reverse ++ st)
    (hmc : mc2 + M'.2.2.2.2.2.cells ≤ mc) (hms : ms2 + M'.2.2.2.2.2.slots ≤ ms) (kk : ∀ (r : σ) (z2 : Hp), J l Γ M cv mc2 ms2 (pc + 3) lv ((cv' r).toList ++ st) z2 (f r z2)) : J l Γ M cv mc ms pc lv stk z (bnd t1 f) := by
  refine j_run (cv' := cv') (kc := M'.2.2.2.2.2.cells) (ks := M'.2.2.2.2.2.slots) (as := as.toArray) (fun r z2 h p e s m args below meth c0 H locs cells slots ls hC hK hv hR h1 h2 => ?_) hmc hms kk
  obtain ⟨⟨w1, w3, w4, w5⟩, hy, hn, hf, hl⟩ := hw
  have hts := hC.2.2.2.2.2.2.2
  exact va_runSN (As := as) (rest := st) (n := as.length) (nL := M.2.2.1) (Ts := gw) (own := M.1) (host := host) ⟨hC.1, hC.2.1, hC.2.2.1, hC.2.2.2.1, hts⟩ (hct r z2 h) ⟨⟨⟨rfl, rfl, hf, hl, cw_ws hC w5, List.mem_cons_self⟩, hts _ w5, hts _ w4, hy, cw_len hn, va_Nw.use rfl (hK.2.2.1 _ w1)⟩, hts _ w3, trivial⟩
    ⟨cw_blind, fun U hU hW => ⟨rfl, by rw [hU]; exact hR, hK.warm hW⟩⟩ rfl rfl hv.1 hstk (lv_room hs) hd ⟨by omega, by omega⟩
theorem j_callIN {host : String} (hct : Ct l Γ y M' cv' (.ref (mB Γ + a) :: as) z t1) (hw : CwIN M M' y idx as.length host) (hd : decode M.2.1 pc = .ok (.invokespecial idx, 3)) (hs : (st.map fun v => v.category).sum ≤ 8) (hstk : stk = as.reverse ++ .ref (mB Γ + a) :: st)
    (hmc : mc2 + M'.2.2.2.2.2.cells ≤ mc) (hms : ms2 + M'.2.2.2.2.2.slots ≤ ms) (kk : ∀ (r : σ) (z2 : Hp), J l Γ M cv mc2 ms2 (pc + 3) lv ((cv' r).toList ++ st) z2 (f r z2)) : J l Γ M cv mc ms pc lv stk z (bnd t1 f) := by
  refine j_run (cv' := cv') (kc := M'.2.2.2.2.2.cells) (ks := M'.2.2.2.2.2.slots) (as := (Value.ref (mB Γ + a) :: as).toArray) (fun r z2 h p e s m args below meth c0 H locs cells slots ls hC hK hv hR h1 h2 => ?_) hmc hms kk
  obtain ⟨⟨w1, w2, w4, w5, w6, w7⟩, hy, hn, hf, hl⟩ := hw
  have hts := hC.2.2.2.2.2.2.2
  have hM := hct r z2 h
  rw [w6] at hM
  exact va_runIN (As := as) (rest := st) (n := as.length) (nL := M.2.2.1) (Ts := gw) (own := M.1) (host := host) ⟨hC.1, hC.2.1, hC.2.2.1, hC.2.2.2.1, hts⟩ hM ⟨⟨⟨rfl, rfl, hf, hl, cw_ws hC w5, List.mem_cons_self⟩, hts _ w5, hts _ w4, hy, cw_len hn, va_Nw.use rfl (hK.2.2.1 _ w1)⟩, w7, hts _ w2⟩
    ⟨cw_blind, fun U hU hW => ⟨rfl, by rw [hU]; exact hR, hK.warm hW⟩⟩ rfl rfl hv.1 hstk (lv_room hs) hd ⟨by omega, by omega⟩
/-- new C -/
theorem j_new {g0 : Nat → Hp → Option (ρ × Hp)} (hcl : ClsOk c C T N ty) (hdef : ∀ k, k < N → defaultValue (ty k) = if fRef c k = true then .null else .int 0) (hw : Cond.classLink M.1 idx C ∈ gw ∧ Cond.instantiable C N ∈ gw ∧ Cond.initialized C ∈ gw) (hd : decode M.2.1 pc = .ok (.new idx, 3)) (hmc : mc2 + 1 ≤ mc) (hms : ms2 + N ≤ ms)
    (kk : ∀ (b : Nat) (z2 : Hp), J l Γ M cv mc2 ms2 (pc + 3) lv (.ref (mB Γ + b) :: st) z2 (g0 b z2)) : J l Γ M cv mc ms pc lv st z (nwC (c + 7) 0 z g0) := by
  intro v z1 ht p e s m args below meth c0 H locs cells slots ls hC hK hv hR hL h1 h2
  obtain ⟨hc, hin, hty, hnm⟩ := hcl
  have hts := hC.2.2.2.2.2.2.2
  have hKn := hK.1 c _ hc
  refine W.newcK hC.1 hC.2.1 hC.2.2.2.1 (hts _ hw.1) (hts _ hw.2.1) (hts _ hw.2.2) rfl hd (by omega) (by omega) hKn.2.1 hR.1 fun H1 kC hkC e1 z1 o1 => ?_
  refine kk _ _ v _ ht p e s m args below meth c0 H1 locs (cells + 1) (slots + N) ls hC hK hv ?_ hL (by omega) (by omega)
  refine hR.new (by rw [z1]) o1 ?_
  have hk1 : (zK (zNew z (c + 7) 0) (zN z)).1 = c + 7 := congrArg Prod.fst (ups_s _ _ _ : zK (zNew z (c + 7) 0) (zN z) = (c + 7, 0))
  refine CellAt.obj hk1 ?_
  rw [nF_of hc]
  refine (u_born ty hts hin hKn hkC e1 hty).to (fun j hj => ?_)
  rw [hdef j hj]
  have eI : zI (zNew z (c + 7) 0) (zN z) = fun _ => 0 := ups_s _ _ _
  have eR : zR (zNew z (c + 7) 0) (zN z) = fun _ => none := ups_s _ _ _
  unfold fval
  rw [eI, eR]
  rfl

theorem j_newarr1 {g0 : Nat → Hp → Option (ρ × Hp)} {n : Int32} {n0 : Nat} (hw : Cond.arrayClass (newarray.typeOf .int) ∈ gw) (hd : decode M.2.1 pc = .ok (.newarray .int, 2)) (hn : ¬ n < 0) (hn0 : n.toNatClampNeg = n0) (hb : n0 * 8 ≤ 536870912) (hmc : mc2 + 1 ≤ mc) (hms : ms2 + n0 ≤ ms)
    (kk : ∀ (b : Nat) (z2 : Hp), J l Γ M cv mc2 ms2 (pc + 2) lv (.ref (mB Γ + b) :: st) z2 (g0 b z2)) : J l Γ M cv mc ms pc lv (.int n :: st) z (nwC 1 n0 z g0) := by
  intro v z1 ht p e s m args below meth c0 H locs cells slots ls hC hK hv hR hL h1 h2
  have hts := hC.2.2.2.2.2.2.2
  refine va_newaK hC.1 hC.2.1 (hts _ hw) rfl hd rfl hn hn0 (by show n0 * componentBytes _ ≤ _; simp [newarray.typeOf, componentBytes] <;> omega) (by omega) (by omega) hR.1 fun H1 cA e1 hsz o1 hAr hNm => ?_
  refine kk _ _ v _ ht p e s m args below meth c0 H1 locs (cells + 1) (slots + n0) ls hC hK hv ?_ hL (by omega) (by omega)
  refine hR.new hsz o1 ?_
  have hk1 : zK (zNew z 1 n0) (zN z) = (1, n0) := ups_s _ _ _
  have hcA : cA = mA Γ 0 := Option.some.inj (hNm.symm.trans (hK.2.1 0 _ rfl).2)
  refine CellAt.arr1 (by rw [hk1]) ?_
  rw [e1, hcA, hk1]
  have eI : zI (zNew z 1 n0) (zN z) = fun _ => 0 := ups_s _ _ _
  simp only [arrP]
  rw [eI]
  rfl
theorem j_newarr2 {g0 : Nat → Hp → Option (ρ × Hp)} {n : Int32} {n0 : Nat} (hw : Cond.arrayClass (newarray.typeOf .boolean) ∈ gw) (hd : decode M.2.1 pc = .ok (.newarray .boolean, 2)) (hn : ¬ n < 0) (hn0 : n.toNatClampNeg = n0) (hb : n0 * 8 ≤ 536870912) (hmc : mc2 + 1 ≤ mc) (hms : ms2 + n0 ≤ ms)
    (kk : ∀ (b : Nat) (z2 : Hp), J l Γ M cv mc2 ms2 (pc + 2) lv (.ref (mB Γ + b) :: st) z2 (g0 b z2)) : J l Γ M cv mc ms pc lv (.int n :: st) z (nwC 2 n0 z g0) := by
  intro v z1 ht p e s m args below meth c0 H locs cells slots ls hC hK hv hR hL h1 h2
  have hts := hC.2.2.2.2.2.2.2
  refine va_newaK hC.1 hC.2.1 (hts _ hw) rfl hd rfl hn hn0 (by show n0 * componentBytes _ ≤ _; simp [newarray.typeOf, componentBytes] <;> omega) (by omega) (by omega) hR.1 fun H1 cA e1 hsz o1 hAr hNm => ?_
  refine kk _ _ v _ ht p e s m args below meth c0 H1 locs (cells + 1) (slots + n0) ls hC hK hv ?_ hL (by omega) (by omega)
  refine hR.new hsz o1 ?_
  have hk1 : zK (zNew z 2 n0) (zN z) = (2, n0) := ups_s _ _ _
  have hcA : cA = mA Γ 1 := Option.some.inj (hNm.symm.trans (hK.2.1 1 _ rfl).2)
  refine CellAt.arr2 (by rw [hk1]) ?_
  rw [e1, hcA, hk1]
  have eI : zI (zNew z 2 n0) (zN z) = fun _ => 0 := ups_s _ _ _
  simp only [arrP]
  rw [eI]
  rfl
theorem j_newarr3 {g0 : Nat → Hp → Option (ρ × Hp)} {n : Int32} {n0 : Nat} (hw : Cond.arrayClass (newarray.typeOf .byte) ∈ gw) (hd : decode M.2.1 pc = .ok (.newarray .byte, 2)) (hn : ¬ n < 0) (hn0 : n.toNatClampNeg = n0) (hb : n0 * 8 ≤ 536870912) (hmc : mc2 + 1 ≤ mc) (hms : ms2 + n0 ≤ ms)
    (kk : ∀ (b : Nat) (z2 : Hp), J l Γ M cv mc2 ms2 (pc + 2) lv (.ref (mB Γ + b) :: st) z2 (g0 b z2)) : J l Γ M cv mc ms pc lv (.int n :: st) z (nwC 3 n0 z g0) := by
  intro v z1 ht p e s m args below meth c0 H locs cells slots ls hC hK hv hR hL h1 h2
  have hts := hC.2.2.2.2.2.2.2
  refine va_newaK hC.1 hC.2.1 (hts _ hw) rfl hd rfl hn hn0 (by show n0 * componentBytes _ ≤ _; simp [newarray.typeOf, componentBytes] <;> omega) (by omega) (by omega) hR.1 fun H1 cA e1 hsz o1 hAr hNm => ?_
  refine kk _ _ v _ ht p e s m args below meth c0 H1 locs (cells + 1) (slots + n0) ls hC hK hv ?_ hL (by omega) (by omega)
  refine hR.new hsz o1 ?_
  have hk1 : zK (zNew z 3 n0) (zN z) = (3, n0) := ups_s _ _ _
  have hcA : cA = mA Γ 2 := Option.some.inj (hNm.symm.trans (hK.2.1 2 _ rfl).2)
  refine CellAt.arr3 (by rw [hk1]) ?_
  rw [e1, hcA, hk1]
  have eI : zI (zNew z 3 n0) (zN z) = fun _ => 0 := ups_s _ _ _
  simp only [arrP]
  rw [eI]
  rfl
theorem j_newarr4 {g0 : Nat → Hp → Option (ρ × Hp)} {n : Int32} {n0 : Nat} (hw : Cond.arrayClass (newarray.typeOf .long) ∈ gw) (hd : decode M.2.1 pc = .ok (.newarray .long, 2)) (hn : ¬ n < 0) (hn0 : n.toNatClampNeg = n0) (hb : n0 * 8 ≤ 536870912) (hmc : mc2 + 1 ≤ mc) (hms : ms2 + n0 ≤ ms)
    (kk : ∀ (b : Nat) (z2 : Hp), J l Γ M cv mc2 ms2 (pc + 2) lv (.ref (mB Γ + b) :: st) z2 (g0 b z2)) : J l Γ M cv mc ms pc lv (.int n :: st) z (nwC 4 n0 z g0) := by
  intro v z1 ht p e s m args below meth c0 H locs cells slots ls hC hK hv hR hL h1 h2
  have hts := hC.2.2.2.2.2.2.2
  refine va_newaK hC.1 hC.2.1 (hts _ hw) rfl hd rfl hn hn0 (by show n0 * componentBytes _ ≤ _; simp [newarray.typeOf, componentBytes] <;> omega) (by omega) (by omega) hR.1 fun H1 cA e1 hsz o1 hAr hNm => ?_
  refine kk _ _ v _ ht p e s m args below meth c0 H1 locs (cells + 1) (slots + n0) ls hC hK hv ?_ hL (by omega) (by omega)
  refine hR.new hsz o1 ?_
  have hk1 : zK (zNew z 4 n0) (zN z) = (4, n0) := ups_s _ _ _
  have hcA : cA = mA Γ 3 := Option.some.inj (hNm.symm.trans (hK.2.1 3 _ rfl).2)
  refine CellAt.arr4 (by rw [hk1]) ?_
  rw [e1, hcA, hk1]
  have eI : zL (zNew z 4 n0) (zN z) = fun _ => 0 := ups_s _ _ _
  simp only [arrP]
  rw [eI]
  rfl
theorem j_anewarr {g0 : Nat → Hp → Option (ρ × Hp)} {n : Int32} {n0 : Nat} (hw : Cond.classLink M.1 idx "FrostRing$State" ∈ gw) (hd : decode M.2.1 pc = .ok (.anewarray idx, 3)) (hn : ¬ n < 0) (hn0 : n.toNatClampNeg = n0) (hb : n0 * 4 ≤ 536870912) (hmc : mc2 + 1 ≤ mc) (hms : ms2 + n0 ≤ ms)
    (kk : ∀ (b : Nat) (z2 : Hp), J l Γ M cv mc2 ms2 (pc + 3) lv (.ref (mB Γ + b) :: st) z2 (g0 b z2)) : J l Γ M cv mc ms pc lv (.int n :: st) z (nwC 5 n0 z g0) := by
  intro v z1 ht p e s m args below meth c0 H locs cells slots ls hC hK hv hR hL h1 h2
  have hts := hC.2.2.2.2.2.2.2
  subst hn0
  refine W.anew hC.1 hC.2.1 hC.2.2.2.1 (hts _ hw) (va_AO.use hK.2.2.2.2.1) rfl hd rfl hn hb (by omega) (by omega) fun cA kA comp f1 f2 f3 f4 => ?_
  obtain ⟨kA', comp', g1, g2, g3, g4⟩ := (hK.2.1 4 _ rfl).2
  have hcA : cA = mA Γ 4 := Option.some.inj (f1.symm.trans g4)
  subst hcA
  rw [hR.1]
  refine kk _ _ v _ ht p e s m args below meth c0 _ locs (cells + 1) (slots + n.toNatClampNeg) ls hC hK hv ?_ hL (by omega) (by omega)
  refine hR.new (by rw [Array.size_push, hR.1]) (fun q hq => by rw [Array.getElem?_push, if_neg (by rw [hR.1]; omega)]) ?_
  have hk1 : zK (zNew z 5 n.toNatClampNeg) (zN z) = (5, n.toNatClampNeg) := ups_s _ _ _
  refine CellAt.arr5 (by rw [hk1]) ?_
  rw [hk1, ← hR.1, Array.getElem?_push_size]
  have eI : zR (zNew z 5 n.toNatClampNeg) (zN z) = fun _ => none := ups_s _ _ _
  simp only [arrP]
  rw [eI, arrV_new]
  rfl
theorem j_aastore {i : Int32} {r : Nat} {g : Hp → Option (ρ × Hp)} (hd : decode M.2.1 pc = .ok (.aastore, 1)) (kk : ∀ z2 : Hp, J l Γ M cv mc ms (pc + 1) lv st z2 (g z2)) : J l Γ M cv mc ms pc lv (.ref (mB Γ + r) :: .int i :: .ref (mB Γ + a) :: st) z (sR z a i r g) := by
  intro v z1 ht p e s m args below meth c0 H locs cells slots ls hC hK hv hR hL h1 h2
  unfold sR at ht
  by_cases hkd : ((zK z a).1 = 5 ∧ inb i (zK z a).2 = true) ∧ (zK z r).1 = 8 + 7
  · rw [if_pos hkd] at ht
    have hcell := hR.arr5 hkd.1.1
    obtain ⟨cellV, g1, g2, g3, -⟩ := hR.obj hkd.2
    have hcls := (hK.1 8 _ rfl).2
    obtain ⟨kA, comp, k1, k2, k3, -⟩ := (hK.2.1 4 _ rfl).2
    have hcomp : comp = mC Γ 8 := Option.some.inj (k3.symm.trans hcls.1)
    subst hcomp
    obtain ⟨kC, hkC, -⟩ := hcls.2
    have h0 : ¬ i < 0 := fun q => inb_vp hkd.1.2 (Or.inl q)
    refine W.aast hC.1 hC.2.1 hcell (fun q h => by cases h) (fun h => by cases h) k1 k2 rfl hkC ⟨h0, by show _ < (arrV _ _ _).slots.size; rw [arrV_size]; exact inb_lt hkd.1.2⟩ g1 (fun q h => by rw [g3] at h; cases h) (by rw [g2]; exact hkC) (by rw [g2]; exact va_assign (s := s) hcls) rfl rfl hd (fun H1 e1 hsz ho => ?_)
    refine kk _ v z1 ht p e s m args below meth c0 H1 _ cells slots ls hC hK hv ?_ ?_ h1 h2
    · refine hR.set (hR.lt (by rw [hkd.1.1]; omega)) hsz ho rfl rfl (fun b _ => rfl) (fun b _ => rfl) (fun b hb => ups_n _ _ hb) (CellAt.arr5 hkd.1.1 ?_)
      rw [e1]
      simp only [arrP]
      rw [arrV_store]
      refine congrArg some (congrArg (arrV _ _) (funext fun j => ?_))
      have e2 : zR (wR z a (ups (zR z a) i.toNatClampNeg (some r))) a = ups (zR z a) i.toNatClampNeg (some r) := ups_s _ _ _
      rw [e2]
      by_cases hj : j = i.toNatClampNeg
      · subst hj
        simp [updV, ups_s, rfv, va_rf]
      · simp [updV, hj, ups_n _ _ hj]
    · intro q hq
      rcases List.mem_append.mp hq with h | h
      · exact hL q h
      · rw [List.mem_singleton.mp h]; exact Nat.le_add_right _ _
  · rw [if_neg hkd] at ht
    cases ht
theorem j_arraycopy1 {a0 : Nat} {sp dp n : Int32} {g : Hp → Option (ρ × Hp)} (hw : Cond.methodLink M.1 idx arraycopyName ∈ gw ∧ Cond.native arraycopyName ∈ gw ∧ Cond.static arraycopyName ∈ gw ∧ Cond.initialized "java/lang/System" ∈ gw) (hf : 1 ≤ M.2.2.2.2.2.frames) (hlo : (st.map fun v => v.category).sum + (nativeFrameWords "java/lang/System" "arraycopy" 5 + 11) ≤ M.2.2.2.2.2.locals) (hd : decode M.2.1 pc = .ok (.invokestatic idx, 3))
    (kk : ∀ z2 : Hp, J l Γ M cv mc ms (pc + 3) lv st z2 (g z2)) : J l Γ M cv mc ms pc lv (.int n :: .int dp :: .ref (mB Γ + a) :: .int sp :: .ref (mB Γ + a0) :: st) z (cpI z a0 sp a dp n g) := by
  intro v z1 ht p e s m args below meth c0 H locs cells slots ls hC hK hv hR hL h1 h2
  unfold cpI at ht
  by_cases hkd : ((zK z a0).1 = 1 ∧ (zK z a).1 = 1) ∧ (¬ sp < 0 ∧ ¬ dp < 0 ∧ ¬ n < 0) ∧ sp.toNatClampNeg + n.toNatClampNeg ≤ (zK z a0).2 ∧ dp.toNatClampNeg + n.toNatClampNeg ≤ (zK z a).2
  · rw [if_pos hkd] at ht
    obtain ⟨⟨k0, k1⟩, ⟨s1, s2, s3⟩, s4, s5⟩ := hkd
    have hts := hC.2.2.2.2.2.2.2
    have nn : ∀ x : Int32, ¬ x < 0 → x.toInt = (x.toNatClampNeg : Int) := by
      intro x hx
      have hx0 : (0 : Int) ≤ x.toInt := by
        have := Int32.not_lt.mp hx
        simpa using Int32.le_iff_toInt_le.mp this
      show x.toInt = ((x.toInt.toNat : Nat) : Int)
      omega
    intro T hT X
    have hc0 : H[mB Γ + a0]? = some (arrV (mA Γ 0) (zK z a0).2 (fun j => .int (zI z a0 j))) := hR.arr1 k0
    have hc1 : H[mB Γ + a]? = some (arrV (mA Γ 0) (zK z a).2 (fun j => .int (zI z a j))) := hR.arr1 k1
    obtain ⟨-, k0', hk0, cm0, hkk0⟩ := (hK.2.1 0 _ rfl).1 (zK z a0).2 (fun j => .int (zI z a0 j))
    obtain ⟨-, k1', hk1, cm1, hkk1⟩ := (hK.2.1 0 _ rfl).1 (zK z a).2 (fun j => .int (zI z a j))
    obtain ⟨vm', X', step⟩ := X.arraycopy hC.1 hC.2.2.2.1 (hts _ hw.1) (hts _ hw.2.1) (hts _ hw.2.2.1) (hts _ hw.2.2.2) (src := mB Γ + a0) (dst := mB Γ + a) (cs := arrV (mA Γ 0) (zK z a0).2 (fun j => .int (zI z a0 j))) (cd := arrV (mA Γ 0) (zK z a).2 (fun j => .int (zI z a j))) (srcPos := sp) (destPos := dp) (n := n) (by rw [hT]; exact hc0) (by rw [hT]; exact hc1)
      (fun _ h => by cases h) (fun _ h => by cases h) (fun h => by cases h) (fun h => by cases h) hk0 hk1 hkk0 hkk1 (by simp [refKind]) s1 s2 s3
      (by rw [nn sp s1, nn n s3, arrV_size]; omega)
      (by rw [nn dp s2, nn n s3, arrV_size]; omega)
      (fun vm₁ _ i hi => by
        have e : (arrV (mA Γ 0) (zK z a0).2 (fun j => .int (zI z a0 j))).slots.getD (sp.toNatClampNeg + i) .null = .int (zI z a0 (sp.toNatClampNeg + i)) := by
          rw [Array.getD_eq_getD_getElem?, arrV_read _ _ (by omega)]
          rfl
        refine ⟨?_, ?_⟩
        · rw [e]; rfl
        · rw [e]; exact trivial)
      (g := F0 m pc ls (.int n :: .int dp :: .ref (mB Γ + a) :: .int sp :: .ref (mB Γ + a0) :: st)) rfl (by rw [hC.2.2.1]; exact hv.1) (rest := st) rfl (by rw [hC.2.1]; exact hd) hf (by show 2 * 0 + _ + _ ≤ _; omega)
    have e1 : copied (arrV (mA Γ 0) (zK z a0).2 (fun j => .int (zI z a0 j))) (arrV (mA Γ 0) (zK z a).2 (fun j => .int (zI z a j))) sp dp n = arrV (mA Γ 0) (zK z a).2 (fun j => .int (va_cpy (zI z a0) (zI z a) sp.toNatClampNeg dp.toNatClampNeg n.toNatClampNeg j)) := va_copied (fun z => .int z) _ _ _ _ s4
    rw [e1] at X' step
    have hlt : mB Γ + a < H.size := (Array.getElem?_eq_some_iff.mp hc1).1
    have hRl : Rl Γ (wI z a (va_cpy (zI z a0) (zI z a) sp.toNatClampNeg dp.toNatClampNeg n.toNatClampNeg)) ((T.setVm vm').setCell (mB Γ + a) (arrV (mA Γ 0) (zK z a).2 (fun j => .int (va_cpy (zI z a0) (zI z a) sp.toNatClampNeg dp.toNatClampNeg n.toNatClampNeg j)))).heap := by
      subst hT
      refine hR.set (hR.lt (by rw [k1]; omega)) (size_setCell _ _ _) (fun q hq => heapAt_setCell_ne _ (Ne.symm hq)) rfl rfl (fun b hb => ups_n _ _ hb) (fun b hb => rfl) (fun b _ => rfl) (CellAt.arr1 k1 ?_)
      have e2 : zI (wI z a (va_cpy (zI z a0) (zI z a) sp.toNatClampNeg dp.toNatClampNeg n.toNatClampNeg)) a = va_cpy (zI z a0) (zI z a) sp.toNatClampNeg dp.toNatClampNeg n.toNatClampNeg := ups_s _ _ _
      simp only [arrP]
      rw [e2]
      exact heapAt_setCell_self _ hlt
    obtain ⟨t2, a1, b1⟩ := kk _ v z1 ht p e s m args below meth c0 _ _ cells slots ls hC hK hv hRl (fun q hq => by
      rcases List.mem_append.mp hq with h | h
      · exact hL q h
      · obtain ⟨x, -, hx⟩ := List.mem_map.mp h
        rw [← hx]
        exact Nat.le_add_right _ _) h1 h2 _ rfl X'
    exact ⟨t2, step t2 a1, b1⟩
  · rw [if_neg hkd] at ht
    cases ht
theorem j_arraycopy4 {a0 : Nat} {sp dp n : Int32} {g : Hp → Option (ρ × Hp)} (hw : Cond.methodLink M.1 idx arraycopyName ∈ gw ∧ Cond.native arraycopyName ∈ gw ∧ Cond.static arraycopyName ∈ gw ∧ Cond.initialized "java/lang/System" ∈ gw) (hf : 1 ≤ M.2.2.2.2.2.frames) (hlo : (st.map fun v => v.category).sum + (nativeFrameWords "java/lang/System" "arraycopy" 5 + 11) ≤ M.2.2.2.2.2.locals) (hd : decode M.2.1 pc = .ok (.invokestatic idx, 3))
    (kk : ∀ z2 : Hp, J l Γ M cv mc ms (pc + 3) lv st z2 (g z2)) : J l Γ M cv mc ms pc lv (.int n :: .int dp :: .ref (mB Γ + a) :: .int sp :: .ref (mB Γ + a0) :: st) z (cpL z a0 sp a dp n g) := by
  intro v z1 ht p e s m args below meth c0 H locs cells slots ls hC hK hv hR hL h1 h2
  unfold cpL at ht
  by_cases hkd : ((zK z a0).1 = 4 ∧ (zK z a).1 = 4) ∧ (¬ sp < 0 ∧ ¬ dp < 0 ∧ ¬ n < 0) ∧ sp.toNatClampNeg + n.toNatClampNeg ≤ (zK z a0).2 ∧ dp.toNatClampNeg + n.toNatClampNeg ≤ (zK z a).2
  · rw [if_pos hkd] at ht
    obtain ⟨⟨k0, k1⟩, ⟨s1, s2, s3⟩, s4, s5⟩ := hkd
    have hts := hC.2.2.2.2.2.2.2
    have nn : ∀ x : Int32, ¬ x < 0 → x.toInt = (x.toNatClampNeg : Int) := by
      intro x hx
      have hx0 : (0 : Int) ≤ x.toInt := by
        have := Int32.not_lt.mp hx
        simpa using Int32.le_iff_toInt_le.mp this
      show x.toInt = ((x.toInt.toNat : Nat) : Int)
      omega
    intro T hT X
    have hc0 : H[mB Γ + a0]? = some (arrV (mA Γ 3) (zK z a0).2 (fun j => .long (zL z a0 j))) := hR.arr4 k0
    have hc1 : H[mB Γ + a]? = some (arrV (mA Γ 3) (zK z a).2 (fun j => .long (zL z a j))) := hR.arr4 k1
    obtain ⟨-, k0', hk0, cm0, hkk0⟩ := (hK.2.1 3 _ rfl).1 (zK z a0).2 (fun j => .long (zL z a0 j))
    obtain ⟨-, k1', hk1, cm1, hkk1⟩ := (hK.2.1 3 _ rfl).1 (zK z a).2 (fun j => .long (zL z a j))
    obtain ⟨vm', X', step⟩ := X.arraycopy hC.1 hC.2.2.2.1 (hts _ hw.1) (hts _ hw.2.1) (hts _ hw.2.2.1) (hts _ hw.2.2.2) (src := mB Γ + a0) (dst := mB Γ + a) (cs := arrV (mA Γ 3) (zK z a0).2 (fun j => .long (zL z a0 j))) (cd := arrV (mA Γ 3) (zK z a).2 (fun j => .long (zL z a j))) (srcPos := sp) (destPos := dp) (n := n) (by rw [hT]; exact hc0) (by rw [hT]; exact hc1)
      (fun _ h => by cases h) (fun _ h => by cases h) (fun h => by cases h) (fun h => by cases h) hk0 hk1 hkk0 hkk1 (by simp [refKind]) s1 s2 s3
      (by rw [nn sp s1, nn n s3, arrV_size]; omega)
      (by rw [nn dp s2, nn n s3, arrV_size]; omega)
      (fun vm₁ _ i hi => by
        have e : (arrV (mA Γ 3) (zK z a0).2 (fun j => .long (zL z a0 j))).slots.getD (sp.toNatClampNeg + i) .null = .long (zL z a0 (sp.toNatClampNeg + i)) := by
          rw [Array.getD_eq_getD_getElem?, arrV_read _ _ (by omega)]
          rfl
        refine ⟨?_, ?_⟩
        · rw [e]; rfl
        · rw [e]; exact trivial)
      (g := F0 m pc ls (.int n :: .int dp :: .ref (mB Γ + a) :: .int sp :: .ref (mB Γ + a0) :: st)) rfl (by rw [hC.2.2.1]; exact hv.1) (rest := st) rfl (by rw [hC.2.1]; exact hd) hf (by show 2 * 0 + _ + _ ≤ _; omega)
    have e1 : copied (arrV (mA Γ 3) (zK z a0).2 (fun j => .long (zL z a0 j))) (arrV (mA Γ 3) (zK z a).2 (fun j => .long (zL z a j))) sp dp n = arrV (mA Γ 3) (zK z a).2 (fun j => .long (va_cpy (zL z a0) (zL z a) sp.toNatClampNeg dp.toNatClampNeg n.toNatClampNeg j)) := va_copied (fun z => .long z) _ _ _ _ s4
    rw [e1] at X' step
    have hlt : mB Γ + a < H.size := (Array.getElem?_eq_some_iff.mp hc1).1
    have hRl : Rl Γ (wL z a (va_cpy (zL z a0) (zL z a) sp.toNatClampNeg dp.toNatClampNeg n.toNatClampNeg)) ((T.setVm vm').setCell (mB Γ + a) (arrV (mA Γ 3) (zK z a).2 (fun j => .long (va_cpy (zL z a0) (zL z a) sp.toNatClampNeg dp.toNatClampNeg n.toNatClampNeg j)))).heap := by
      subst hT
      refine hR.set (hR.lt (by rw [k1]; omega)) (size_setCell _ _ _) (fun q hq => heapAt_setCell_ne _ (Ne.symm hq)) rfl rfl (fun b hb => rfl) (fun b hb => ups_n _ _ hb) (fun b _ => rfl) (CellAt.arr4 k1 ?_)
      have e2 : zL (wL z a (va_cpy (zL z a0) (zL z a) sp.toNatClampNeg dp.toNatClampNeg n.toNatClampNeg)) a = va_cpy (zL z a0) (zL z a) sp.toNatClampNeg dp.toNatClampNeg n.toNatClampNeg := ups_s _ _ _
      simp only [arrP]
      rw [e2]
      exact heapAt_setCell_self _ hlt
    obtain ⟨t2, a1, b1⟩ := kk _ v z1 ht p e s m args below meth c0 _ _ cells slots ls hC hK hv hRl (fun q hq => by
      rcases List.mem_append.mp hq with h | h
      · exact hL q h
      · obtain ⟨x, -, hx⟩ := List.mem_map.mp h
        rw [← hx]
        exact Nat.le_add_right _ _) h1 h2 _ rfl X'
    exact ⟨t2, step t2 a1, b1⟩
  · rw [if_neg hkd] at ht
    cases ht

theorem J.fewer {mc1 ms1 : Nat} (h1 : mc1 ≤ mc) (h2 : ms1 ≤ ms) (k : J l Γ M cv mc1 ms1 pc lv st z t) : J l Γ M cv mc ms pc lv st z t :=
  fun v z1 ht p e s m args below meth c0 H locs cells slots ls hC hK hv hR hL g1 g2 => k v z1 ht p e s m args below meth c0 H locs cells slots ls hC hK hv hR hL (by omega) (by omega)
theorem j_callV_I {t1 : Option (Int32 × Hp)} {f : Int32 → Hp → Option (ρ × Hp)} (hct : Ct l Γ y M' cvI (.ref (mB Γ + a) :: as) z t1) (hkd : (zK z a).1 = c + 7) (hc : cls_T[c]? = some (C, T, N)) (hw : CwV M M' y C idx as.length) (hd : decode M.2.1 pc = .ok (.invokevirtual idx, 3)) (hs : (st.map fun v => v.category).sum ≤ 8) (hstk : stk = as.reverse ++ .ref (mB Γ + a) :: st) (hmc : mc2 + M'.2.2.2.2.2.cells ≤ mc) (hms : ms2 + M'.2.2.2.2.2.slots ≤ ms) (kk : ∀ (r : Int32) (z2 : Hp), J l Γ M cv mc2 ms2 (pc + 3) lv (.int r :: st) z2 (f r z2)) : J l Γ M cv mc ms pc lv stk z (bnd t1 f) := j_callV hct hkd hc hw hd hs hstk hmc hms kk
theorem j_callV_L {t1 : Option (Int64 × Hp)} {f : Int64 → Hp → Option (ρ × Hp)} (hct : Ct l Γ y M' cvL (.ref (mB Γ + a) :: as) z t1) (hkd : (zK z a).1 = c + 7) (hc : cls_T[c]? = some (C, T, N)) (hw : CwV M M' y C idx as.length) (hd : decode M.2.1 pc = .ok (.invokevirtual idx, 3)) (hs : (st.map fun v => v.category).sum ≤ 8) (hstk : stk = as.reverse ++ .ref (mB Γ + a) :: st) (hmc : mc2 + M'.2.2.2.2.2.cells ≤ mc) (hms : ms2 + M'.2.2.2.2.2.slots ≤ ms) (kk : ∀ (r : Int64) (z2 : Hp), J l Γ M cv mc2 ms2 (pc + 3) lv (.long r :: st) z2 (f r z2)) : J l Γ M cv mc ms pc lv stk z (bnd t1 f) := j_callV hct hkd hc hw hd hs hstk hmc hms kk
theorem j_callV_V {t1 : Option (Unit × Hp)} {f : Unit → Hp → Option (ρ × Hp)} (hct : Ct l Γ y M' cvV (.ref (mB Γ + a) :: as) z t1) (hkd : (zK z a).1 = c + 7) (hc : cls_T[c]? = some (C, T, N)) (hw : CwV M M' y C idx as.length) (hd : decode M.2.1 pc = .ok (.invokevirtual idx, 3)) (hs : (st.map fun v => v.category).sum ≤ 8) (hstk : stk = as.reverse ++ .ref (mB Γ + a) :: st) (hmc : mc2 + M'.2.2.2.2.2.cells ≤ mc) (hms : ms2 + M'.2.2.2.2.2.slots ≤ ms) (kk : ∀ (r : Unit) (z2 : Hp), J l Γ M cv mc2 ms2 (pc + 3) lv (st) z2 (f r z2)) : J l Γ M cv mc ms pc lv stk z (bnd t1 f) := j_callV hct hkd hc hw hd hs hstk hmc hms kk
theorem j_callS_I {t1 : Option (Int32 × Hp)} {f : Int32 → Hp → Option (ρ × Hp)} (hct : Ct l Γ y M' cvI as z t1) (hw : CwS M M' y idx as.length) (hd : decode M.2.1 pc = .ok (.invokestatic idx, 3)) (hs : (st.map fun v => v.category).sum ≤ 8) (hstk : stk = as.reverse ++ st) (hmc : mc2 + M'.2.2.2.2.2.cells ≤ mc) (hms : ms2 + M'.2.2.2.2.2.slots ≤ ms) (kk : ∀ (r : Int32) (z2 : Hp), J l Γ M cv mc2 ms2 (pc + 3) lv (.int r :: st) z2 (f r z2)) : J l Γ M cv mc ms pc lv stk z (bnd t1 f) := j_callS hct hw hd hs hstk hmc hms kk
theorem j_callS_L {t1 : Option (Int64 × Hp)} {f : Int64 → Hp → Option (ρ × Hp)} (hct : Ct l Γ y M' cvL as z t1) (hw : CwS M M' y idx as.length) (hd : decode M.2.1 pc = .ok (.invokestatic idx, 3)) (hs : (st.map fun v => v.category).sum ≤ 8) (hstk : stk = as.reverse ++ st) (hmc : mc2 + M'.2.2.2.2.2.cells ≤ mc) (hms : ms2 + M'.2.2.2.2.2.slots ≤ ms) (kk : ∀ (r : Int64) (z2 : Hp), J l Γ M cv mc2 ms2 (pc + 3) lv (.long r :: st) z2 (f r z2)) : J l Γ M cv mc ms pc lv stk z (bnd t1 f) := j_callS hct hw hd hs hstk hmc hms kk
theorem j_callS_V {t1 : Option (Unit × Hp)} {f : Unit → Hp → Option (ρ × Hp)} (hct : Ct l Γ y M' cvV as z t1) (hw : CwS M M' y idx as.length) (hd : decode M.2.1 pc = .ok (.invokestatic idx, 3)) (hs : (st.map fun v => v.category).sum ≤ 8) (hstk : stk = as.reverse ++ st) (hmc : mc2 + M'.2.2.2.2.2.cells ≤ mc) (hms : ms2 + M'.2.2.2.2.2.slots ≤ ms) (kk : ∀ (r : Unit) (z2 : Hp), J l Γ M cv mc2 ms2 (pc + 3) lv (st) z2 (f r z2)) : J l Γ M cv mc ms pc lv stk z (bnd t1 f) := j_callS hct hw hd hs hstk hmc hms kk
theorem j_callI_I {t1 : Option (Int32 × Hp)} {f : Int32 → Hp → Option (ρ × Hp)} (hct : Ct l Γ y M' cvI (.ref (mB Γ + a) :: as) z t1) (hw : CwI M M' y idx as.length) (hd : decode M.2.1 pc = .ok (.invokespecial idx, 3)) (hs : (st.map fun v => v.category).sum ≤ 8) (hstk : stk = as.reverse ++ .ref (mB Γ + a) :: st) (hmc : mc2 + M'.2.2.2.2.2.cells ≤ mc) (hms : ms2 + M'.2.2.2.2.2.slots ≤ ms) (kk : ∀ (r : Int32) (z2 : Hp), J l Γ M cv mc2 ms2 (pc + 3) lv (.int r :: st) z2 (f r z2)) : J l Γ M cv mc ms pc lv stk z (bnd t1 f) := j_callI hct hw hd hs hstk hmc hms kk
theorem j_callI_L {t1 : Option (Int64 × Hp)} {f : Int64 → Hp → Option (ρ × Hp)} (hct : Ct l Γ y M' cvL (.ref (mB Γ + a) :: as) z t1) (hw : CwI M M' y idx as.length) (hd : decode M.2.1 pc = .ok (.invokespecial idx, 3)) (hs : (st.map fun v => v.category).sum ≤ 8) (hstk : stk = as.reverse ++ .ref (mB Γ + a) :: st) (hmc : mc2 + M'.2.2.2.2.2.cells ≤ mc) (hms : ms2 + M'.2.2.2.2.2.slots ≤ ms) (kk : ∀ (r : Int64) (z2 : Hp), J l Γ M cv mc2 ms2 (pc + 3) lv (.long r :: st) z2 (f r z2)) : J l Γ M cv mc ms pc lv stk z (bnd t1 f) := j_callI hct hw hd hs hstk hmc hms kk
theorem j_callI_V {t1 : Option (Unit × Hp)} {f : Unit → Hp → Option (ρ × Hp)} (hct : Ct l Γ y M' cvV (.ref (mB Γ + a) :: as) z t1) (hw : CwI M M' y idx as.length) (hd : decode M.2.1 pc = .ok (.invokespecial idx, 3)) (hs : (st.map fun v => v.category).sum ≤ 8) (hstk : stk = as.reverse ++ .ref (mB Γ + a) :: st) (hmc : mc2 + M'.2.2.2.2.2.cells ≤ mc) (hms : ms2 + M'.2.2.2.2.2.slots ≤ ms) (kk : ∀ (r : Unit) (z2 : Hp), J l Γ M cv mc2 ms2 (pc + 3) lv (st) z2 (f r z2)) : J l Γ M cv mc ms pc lv stk z (bnd t1 f) := j_callI hct hw hd hs hstk hmc hms kk
theorem j_callSN_I {t1 : Option (Int32 × Hp)} {f : Int32 → Hp → Option (ρ × Hp)} {host : String} (hct : Ct l Γ y M' cvI as z t1) (hw : CwSN M M' y idx as.length host) (hd : decode M.2.1 pc = .ok (.invokestatic idx, 3)) (hs : (st.map fun v => v.category).sum ≤ 8) (hstk : stk = as.reverse ++ st) (hmc : mc2 + M'.2.2.2.2.2.cells ≤ mc) (hms : ms2 + M'.2.2.2.2.2.slots ≤ ms) (kk : ∀ (r : Int32) (z2 : Hp), J l Γ M cv mc2 ms2 (pc + 3) lv (.int r :: st) z2 (f r z2)) : J l Γ M cv mc ms pc lv stk z (bnd t1 f) := j_callSN hct hw hd hs hstk hmc hms kk
theorem j_callSN_L {t1 : Option (Int64 × Hp)} {f : Int64 → Hp → Option (ρ × Hp)} {host : String} (hct : Ct l Γ y M' cvL as z t1) (hw : CwSN M M' y idx as.length host) (hd : decode M.2.1 pc = .ok (.invokestatic idx, 3)) (hs : (st.map fun v => v.category).sum ≤ 8) (hstk : stk = as.reverse ++ st) (hmc : mc2 + M'.2.2.2.2.2.cells ≤ mc) (hms : ms2 + M'.2.2.2.2.2.slots ≤ ms) (kk : ∀ (r : Int64) (z2 : Hp), J l Γ M cv mc2 ms2 (pc + 3) lv (.long r :: st) z2 (f r z2)) : J l Γ M cv mc ms pc lv stk z (bnd t1 f) := j_callSN hct hw hd hs hstk hmc hms kk
theorem j_callSN_V {t1 : Option (Unit × Hp)} {f : Unit → Hp → Option (ρ × Hp)} {host : String} (hct : Ct l Γ y M' cvV as z t1) (hw : CwSN M M' y idx as.length host) (hd : decode M.2.1 pc = .ok (.invokestatic idx, 3)) (hs : (st.map fun v => v.category).sum ≤ 8) (hstk : stk = as.reverse ++ st) (hmc : mc2 + M'.2.2.2.2.2.cells ≤ mc) (hms : ms2 + M'.2.2.2.2.2.slots ≤ ms) (kk : ∀ (r : Unit) (z2 : Hp), J l Γ M cv mc2 ms2 (pc + 3) lv (st) z2 (f r z2)) : J l Γ M cv mc ms pc lv stk z (bnd t1 f) := j_callSN hct hw hd hs hstk hmc hms kk
theorem j_callIN_I {t1 : Option (Int32 × Hp)} {f : Int32 → Hp → Option (ρ × Hp)} {host : String} (hct : Ct l Γ y M' cvI (.ref (mB Γ + a) :: as) z t1) (hw : CwIN M M' y idx as.length host) (hd : decode M.2.1 pc = .ok (.invokespecial idx, 3)) (hs : (st.map fun v => v.category).sum ≤ 8) (hstk : stk = as.reverse ++ .ref (mB Γ + a) :: st) (hmc : mc2 + M'.2.2.2.2.2.cells ≤ mc) (hms : ms2 + M'.2.2.2.2.2.slots ≤ ms) (kk : ∀ (r : Int32) (z2 : Hp), J l Γ M cv mc2 ms2 (pc + 3) lv (.int r :: st) z2 (f r z2)) : J l Γ M cv mc ms pc lv stk z (bnd t1 f) := j_callIN hct hw hd hs hstk hmc hms kk
theorem j_callIN_L {t1 : Option (Int64 × Hp)} {f : Int64 → Hp → Option (ρ × Hp)} {host : String} (hct : Ct l Γ y M' cvL (.ref (mB Γ + a) :: as) z t1) (hw : CwIN M M' y idx as.length host) (hd : decode M.2.1 pc = .ok (.invokespecial idx, 3)) (hs : (st.map fun v => v.category).sum ≤ 8) (hstk : stk = as.reverse ++ .ref (mB Γ + a) :: st) (hmc : mc2 + M'.2.2.2.2.2.cells ≤ mc) (hms : ms2 + M'.2.2.2.2.2.slots ≤ ms) (kk : ∀ (r : Int64) (z2 : Hp), J l Γ M cv mc2 ms2 (pc + 3) lv (.long r :: st) z2 (f r z2)) : J l Γ M cv mc ms pc lv stk z (bnd t1 f) := j_callIN hct hw hd hs hstk hmc hms kk
theorem j_callIN_V {t1 : Option (Unit × Hp)} {f : Unit → Hp → Option (ρ × Hp)} {host : String} (hct : Ct l Γ y M' cvV (.ref (mB Γ + a) :: as) z t1) (hw : CwIN M M' y idx as.length host) (hd : decode M.2.1 pc = .ok (.invokespecial idx, 3)) (hs : (st.map fun v => v.category).sum ≤ 8) (hstk : stk = as.reverse ++ .ref (mB Γ + a) :: st) (hmc : mc2 + M'.2.2.2.2.2.cells ≤ mc) (hms : ms2 + M'.2.2.2.2.2.slots ≤ ms) (kk : ∀ (r : Unit) (z2 : Hp), J l Γ M cv mc2 ms2 (pc + 3) lv (st) z2 (f r z2)) : J l Γ M cv mc ms pc lv stk z (bnd t1 f) := j_callIN hct hw hd hs hstk hmc hms kk

end JCALL
