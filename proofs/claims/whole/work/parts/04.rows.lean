def nestW : List Cond := [(Jvm.Cond.methodLinkNest "FrostRing" (9 : Nat) ({ cls := "FrostRing$State", name := "<init>", desc := "()V" } : Jvm.MethodName) "FrostRing"), (Jvm.Cond.methodLinkNest "FrostRing$State" (11 : Nat) ({ cls := "FrostRing$Soil", name := "<init>", desc := "()V" } : Jvm.MethodName) "FrostRing"), (Jvm.Cond.methodLinkNest "FrostRing$State" (20 : Nat) ({ cls := "FrostRing$Pipes", name := "<init>", desc := "()V" } : Jvm.MethodName) "FrostRing"), (Jvm.Cond.methodLinkNest "FrostRing$State" (27 : Nat) ({ cls := "FrostRing$Houses", name := "<init>", desc := "()V" } : Jvm.MethodName) "FrostRing"), (Jvm.Cond.methodLinkNest "FrostRing$State" (34 : Nat) ({ cls := "FrostRing$Rules", name := "<init>", desc := "()V" } : Jvm.MethodName) "FrostRing"), (Jvm.Cond.methodLinkNest "FrostRing$State" (41 : Nat) ({ cls := "FrostRing$Gauges", name := "<init>", desc := "()V" } : Jvm.MethodName) "FrostRing"), (Jvm.Cond.methodLinkNest "FrostRing" (25 : Nat) ({ cls := "FrostRing$Reader", name := "<init>", desc := "()V" } : Jvm.MethodName) "FrostRing"), (Jvm.Cond.methodLinkNest "FrostRing" (41 : Nat) ({ cls := "FrostRing$Ticker", name := "<init>", desc := "()V" } : Jvm.MethodName) "FrostRing"), (Jvm.Cond.methodLinkNest "FrostRing" (48 : Nat) ({ cls := "FrostRing$Walls", name := "<init>", desc := "()V" } : Jvm.MethodName) "FrostRing"), (Jvm.Cond.methodLinkNest "FrostRing$Walls" (65 : Nat) ({ cls := "FrostRing", name := "beside", desc := "(II)I" } : Jvm.MethodName) "FrostRing"), (Jvm.Cond.methodLinkNest "FrostRing$Walls" (61 : Nat) ({ cls := "FrostRing", name := "isAtRim", desc := "(I)Z" } : Jvm.MethodName) "FrostRing")]
/-- where they are told: class, entry, text, its number -/
def str_T : List (String × Nat × String × Nat) := [("FrostRing$Parser", 64, "ground", 0), ("FrostRing$Parser", 161, "lead", 1), ("FrostRing$Parser", 175, "ice", 2), ("FrostRing$Parser", 180, "latent", 3), ("FrostRing$Parser", 184, "mark", 4), ("FrostRing$Parser", 77, "lay", 5), ("FrostRing$Parser", 188, "to", 6), ("FrostRing$Parser", 82, "stream", 7), ("FrostRing$Parser", 199, "speed", 8), ("FrostRing$Parser", 87, "far", 9), ("FrostRing$Parser", 92, "shaft", 10), ("FrostRing$Parser", 100, "pipe", 11), ("FrostRing$Parser", 208, "at", 12), ("FrostRing$Parser", 114, "cold", 13), ("FrostRing$Parser", 119, "house", 14), ("FrostRing$Parser", 217, "limit", 15), ("FrostRing$Parser", 131, "dig", 16), ("FrostRing$Parser", 221, "if", 17), ("FrostRing$Parser", 241, "shut", 18), ("FrostRing$Parser", 243, "thick", 19), ("FrostRing$Parser", 245, "gaps", 20), ("FrostRing$Parser", 247, "tick", 21), ("FrostRing$Parser", 249, "lift", 22), ("FrostRing$Parser", 236, "and", 23), ("FrostRingModel", 234, "ground", 24), ("FrostRingModel", 259, "lay", 25), ("FrostRingModel", 261, "stream", 26), ("FrostRingModel", 263, "far", 27), ("FrostRingModel", 264, "shaft", 28), ("FrostRingModel", 266, "pipe", 29), ("FrostRingModel", 268, "cold", 30), ("FrostRingModel", 270, "house", 31), ("FrostRingModel", 272, "dig", 32), ("FrostRingModel", 200, "lead", 33), ("FrostRingModel", 206, "ice", 34), ("FrostRingModel", 208, "latent", 35), ("FrostRingModel", 210, "mark", 36), ("FrostRingModel", 222, "to", 37), ("FrostRingModel", 236, "speed", 38), ("FrostRingModel", 238, "at", 39), ("FrostRingModel", 252, "if", 40), ("FrostRingModel", 239, "shut", 41), ("FrostRingModel", 241, "thick", 42), ("FrostRingModel", 243, "gaps", 43), ("FrostRingModel", 245, "tick", 44), ("FrostRingModel", 247, "lift", 45), ("FrostRingModel", 257, "and", 46), ("FrostRingModel", 296, "limit", 47)]
/-- the texts, by their signs -/
def txc_T : List (List Int32) := [[103, 114, 111, 117, 110, 100], [108, 101, 97, 100], [105, 99, 101], [108, 97, 116, 101, 110, 116], [109, 97, 114, 107], [108, 97, 121], [116, 111], [115, 116, 114, 101, 97, 109], [115, 112, 101, 101, 100], [102, 97, 114], [115, 104, 97, 102, 116], [112, 105, 112, 101], [97, 116], [99, 111, 108, 100], [104, 111, 117, 115, 101], [108, 105, 109, 105, 116], [100, 105, 103], [105, 102], [115, 104, 117, 116], [116, 104, 105, 99, 107], [103, 97, 112, 115], [116, 105, 99, 107], [108, 105, 102, 116], [97, 110, 100], [103, 114, 111, 117, 110, 100], [108, 97, 121], [115, 116, 114, 101, 97, 109], [102, 97, 114], [115, 104, 97, 102, 116], [112, 105, 112, 101], [99, 111, 108, 100], [104, 111, 117, 115, 101], [100, 105, 103], [108, 101, 97, 100], [105, 99, 101], [108, 97, 116, 101, 110, 116], [109, 97, 114, 107], [116, 111], [115, 112, 101, 101, 100], [97, 116], [105, 102], [115, 104, 117, 116], [116, 104, 105, 99, 107], [103, 97, 112, 115], [116, 105, 99, 107], [108, 105, 102, 116], [97, 110, 100], [108, 105, 109, 105, 116]]
/-- long[][] has been made before -/
def AOL (U : State) : Prop := (Cond.arrayOver (.array .long)).before #[] U = true
theorem AOL.moved {u U : State} (hvm : u.vm.Alike U.vm) (h : AOL u) : AOL U := by
  have h2 : (Cond.arrayOver (.array .long)).before #[] (u.setVm U.vm) = true := by rw [Cond.arrayOver_setVmC hvm]; exact h
  unfold AOL
  unfold Cond.before Cond.holds Cond.value at h2 ⊢
  exact h2
/-- what the heap of the start holds of the texts, two statics and the script -/
def Ks (Γ : Am) (U : State) : Prop :=
  (∀ w, w < txc_T.length → va_O "java/lang/String" (mT Γ w) (Own Γ) U (mH Γ) ∧ va_OF "java/lang/String" "coder" "B" (.int 0) (mT Γ w) (Own Γ) U (mH Γ) ∧ va_OF "java/lang/String" "value" "[B" (.ref (mV Γ w)) (mT Γ w) (Own Γ) U (mH Γ) ∧
    va_T .byte (mV Γ w) (txc_T.getD w []).length (fun j => .int ((txc_T.getD w []).getD j 0)) (Own Γ) U (mH Γ)) ∧
  va_Z "java/lang/String" "COMPACT_STRINGS" "Z" (.int 1) (Own Γ) U (mH Γ) ∧ (∃ v : Value, v.category = 1 ∧ va_Z "jdk/internal/util/Preconditions" "SIOOBE_FORMATTER" "Ljava/util/function/BiFunction;" v (Own Γ) U (mH Γ)) ∧
  va_X (mX Γ).1 (mX Γ).2.1 (mX Γ).2.2 U (mH Γ) ∧ (mX Γ).1 < mB Γ
theorem Ks.moved {Γ : Am} {s U : State} (hvm : s.vm.Alike U.vm) (h : Ks Γ s) : Ks Γ U := by
  obtain ⟨h1, h2, ⟨v, hv, h3⟩, h4, h5⟩ := h
  exact ⟨fun w hw => ⟨va_O.moved hvm (h1 w hw).1, va_OF.moved hvm (h1 w hw).2.1, va_OF.moved hvm (h1 w hw).2.2.1, va_T.moved hvm (h1 w hw).2.2.2⟩, va_Z.moved hvm h2, ⟨v, hv, va_Z.moved hvm h3⟩, va_X.moved hvm h4, h5⟩
/-- what the tables say at a state -/
def Kw (Γ : Am) (U : State) : Prop :=
  (∀ (c : Nat) (q : vw_C), cls_T[c]? = some q → u_Kn U q.1 q.2.1 q.2.2 (mC Γ c) (mS Γ c)) ∧
  (∀ (k : Nat) (ty : FieldType), arr_T[k]? = some ty → ArrOfT U (mA Γ k) ty ∧ va_RA U (mA Γ k) ty) ∧
  (∀ w ∈ nestW, va_Nw w U) ∧ (∀ q ∈ str_T, vk_R q.1 q.2.1 q.2.2.1 (mT Γ q.2.2.2) U) ∧ va_AO "FrostRing$State" U ∧ AOL U ∧ Ks Γ U
theorem nestW_link : ∀ w ∈ nestW, ∃ a i x h, w = .methodLinkNest a i x h := by
  intro w hw
  simp only [nestW, List.mem_cons, List.not_mem_nil, or_false] at hw
  rcases hw with rfl | rfl | rfl | rfl | rfl | rfl | rfl | rfl | rfl | rfl | rfl <;> exact ⟨_, _, _, _, rfl⟩
theorem Kw.warm {Γ : Am} {s U : State} (hW : s.WarmedH U.vm) (h : Kw Γ s) : Kw Γ U := by
  obtain ⟨h1, h2, h3, h4, h5, h6, h7⟩ := h
  refine ⟨fun c q hq => u_Kn_moved hW.alike (h1 c q hq), fun k ty hk => ⟨arrOfT_moved hW.alike (h2 k ty hk).1, (h2 k ty hk).2.moved hW.alike⟩, fun w hw => ?_, fun q hq => (h4 q hq).warm hW, h5.moved hW.alike, h6.moved hW.alike, h7.moved hW.alike⟩
  obtain ⟨a, i, x, hh, rfl⟩ := nestW_link w hw
  exact va_Nw.warmM hW (h3 _ hw)
theorem Kw.same {Γ : Am} {s U : State} (hv : U.vm = s.vm) (h : Kw Γ s) : Kw Γ U := by
  obtain ⟨h1, h2, h3, h4, h5, h6, h7⟩ := h
  have ha : s.vm.Alike U.vm := by rw [hv]; exact Vm.Alike.refl _
  refine ⟨fun c q hq => u_Kn_moved ha (h1 c q hq), fun k ty hk => ⟨arrOfT_moved ha (h2 k ty hk).1, (h2 k ty hk).2.moved ha⟩, fun w hw => ?_, fun q hq => (h4 q hq).same hv, h5.moved ha, h6.moved ha, h7.moved ha⟩
  obtain ⟨a, i, x, hh, rfl⟩ := nestW_link w hw
  exact va_Nw.same rfl hv.symm (h3 _ hw)
/-- a method: its class, bytes, locals, answer, name, room -/
abbrev Mi : Type := String × ByteArray × Nat × Option FieldType × String × Room
def Cx (M : Mi) (p : Program) (s : State) (m : MethodId) (args : Array Value) (meth : Method) (c : Code) : Prop :=
  p.tables.exec = Jvm.exec ∧ c.code = M.2.1 ∧ c.maxLocals = M.2.2.1 ∧ s.vm.findClass M.1 = some m.cls ∧ meth.sig.returnType = M.2.2.2.1 ∧ meth.locks = false ∧ meth.name = M.2.2.2.2.1 ∧ ∀ w ∈ gw, w.before args s = true
/-- the end: the answer, and the heap's picture -/
def Qr (Γ : Am) (v : Option Value) (z1 : Hp) : Array Value → State → Outcome → State → Prop := fun _ _ oc t => oc = .returned v ∧ Rl Γ z1 t.heap
/-- from here, with these locals, this stack, this heap, the machine does what t says -/
def J (l : Launch) (Γ : Am) (M : Mi) {ρ : Type} (cv : ρ → Option Value) (mc ms : Nat) (pc : Nat) (lv : List (Nat × Value)) (st : List Value) (z : Hp) (t : Option (ρ × Hp)) : Prop :=
  ∀ (v : ρ) (z1 : Hp), t = some (v, z1) → ∀ (p : Program) (e : Env) (s : State) (m : MethodId) (args : Array Value) (below : List Frame) (meth : Method) (c : Code) (H : Heap) (locs : List Loc) (cells slots : Nat) (ls : Array Slot),
    Cx M p s m args meth c → Kw Γ s → lv_has ls M.2.2.1 lv → Rl Γ z H → (∀ q ∈ locs, Own Γ q.base) → cells + mc ≤ M.2.2.2.2.2.cells → slots + ms ≤ M.2.2.2.2.2.slots →
    W p l e M.2.2.2.2.2 s m args below meth c H locs cells slots (MQ below (Qr Γ (cv v) z1) args s M.2.2.2.2.2.cells M.2.2.2.2.2.slots (Own Γ)) (F0 m pc ls st)
/-- a method's contract -/
def Ct (l : Launch) (Γ : Am) (y : MethodName) (M : Mi) {ρ : Type} (cv : ρ → Option Value) (as : List Value) (z : Hp) (t : Option (ρ × Hp)) : Prop :=
  ∀ (v : ρ) (z1 : Hp), t = some (v, z1) → Met l y (Cond.code y M.2.1 M.2.2.1 M.2.2.2.1 :: gw) M.2.2.2.2.2 (fun a U => a = as.toArray ∧ Rl Γ z U.heap ∧ Kw Γ U) (Qr Γ (cv v) z1) M.2.2.2.2.2.cells M.2.2.2.2.2.slots (Own Γ)
def cvI (r : Int32) : Option Value := some (.int r)
def cvL (r : Int64) : Option Value := some (.long r)
def cvV (_ : Unit) : Option Value := none
section JROWS
variable {l : Launch} {Γ : Am} {M : Mi} {ρ : Type} {cv : ρ → Option Value} {mc ms pc : Nat} {lv : List (Nat × Value)} {st : List Value} {z : Hp} {t : Option (ρ × Hp)}
/-- the entry -/
theorem Met.ofWF {y : MethodName} {ws ws' : List Cond} {rm : Room} {Pc : Array Value → State → Prop} {Qc : Array Value → State → Outcome → State → Prop} {mc ms : Nat} {free : Addr → Prop} {cc : ByteArray} {maxL : Nat} {ret : Option FieldType}
    (hy : plainFor y = true) (hw : ws = Cond.code y cc maxL ret :: ws')
    (body : ∀ p e s m args below meth c s₁, BodyLoose p l y (headSpec ws rm) cc maxL ret e s m args below meth c s₁ → c.maxLocals = maxL → Pc args s →
      W p l e (headSpec ws rm).room s m args below meth c s.heap [] 0 0 (MQ below Qc args s mc ms free) (entryFrame m args maxL)) : Met l y ws rm Pc Qc mc ms free := by
  refine MetFree.of_bodySF (code := cc) (maxLocals := maxL) (ret := ret) hy ?_ ?_
  · intro args s m h hn
    obtain ⟨meth, c, h1, h2, h3, h4, h5, h6, -, -⟩ := Cond.code_spec hn (atoms_spec (ws := ws) h _ (by rw [hw]; exact List.mem_cons_self))
    exact ⟨meth, c, h1, h2, h3, h4, h5, h6⟩
  · intro p e s m args below meth c s₁ B hml hP _
    have hh0 : s₁.heap = s.heap := by rw [B.state]; rfl
    obtain ⟨t, a1, o, b1, b2, b3⟩ := body p e s m args below meth c s₁ B hml hP s₁ hh0 (Stand.of_body B)
    exact ⟨t, o, a1, b1, b2, ⟨b3.1, b3.2⟩⟩
theorem Ct.ofJ {y : MethodName} {as : List Value} (hy : plainFor y = true) (hM : M.1 = y.cls ∧ M.2.2.2.2.1 = y.name) (hl : (lg_sl as).length ≤ M.2.2.1) (h : J l Γ M cv M.2.2.2.2.2.cells M.2.2.2.2.2.slots 0 (lv_args 0 as) [] z t) : Ct l Γ y M cv as z t := by
  intro v z1 ht
  refine Met.ofWF (cc := M.2.1) (maxL := M.2.2.1) (ret := M.2.2.2.1) hy rfl ?_
  intro p e s m args below meth c s₁ B hml hv
  obtain ⟨rfl, hR, hK⟩ := hv
  have hts := atoms_spec (ws := Cond.code y M.2.1 M.2.2.1 M.2.2.2.1 :: gw) B.pre
  have hown : s.vm.findClass y.cls = some m.cls := findClass_of_methodNamed B.named
  rw [lg_entry_eq]
  exact h v z1 ht p e s m _ below meth c s.heap [] 0 0 _ ⟨B.exec, B.bytes, hml, by rw [hM.1]; exact hown, B.returns, B.notSynchronized, by rw [hM.2]; exact (name_of_methodNamed B.named B.method).1, fun w hw => hts w (List.mem_cons_of_mem _ hw)⟩ hK (lv_entry as hl) hR (fun q hq => by cases hq) (by omega) (by omega)
/-- a row that moves the stack and the place alone -/
theorem J.go {pc2 : Nat} {st2 : List Value} (h : ∀ (p : Program) (e : Env) (s : State) (m : MethodId) (args : Array Value) (below : List Frame) (meth : Method) (c : Code) (H : Heap) (locs : List Loc) (cells slots : Nat) (ls : Array Slot) (Q : State → Prop), Cx M p s m args meth c → Kw Γ s → lv_has ls M.2.2.1 lv → Rl Γ z H →
    W p l e M.2.2.2.2.2 s m args below meth c H locs cells slots Q (F0 m pc2 ls st2) → W p l e M.2.2.2.2.2 s m args below meth c H locs cells slots Q (F0 m pc ls st)) (k : J l Γ M cv mc ms pc2 lv st2 z t) : J l Γ M cv mc ms pc lv st z t :=
  fun v z1 ht p e s m args below meth c H locs cells slots ls hC hK hv hR hL h1 h2 => h p e s m args below meth c H locs cells slots ls _ hC hK hv hR (k v z1 ht p e s m args below meth c H locs cells slots ls hC hK hv hR hL h1 h2)
/-- fewer locals, or in another order -/
theorem J.sub {lv2 : List (Nat × Value)} (ks : List Nat) (hs : ks.filterMap (fun i => lv[i]?) = lv2) (k : J l Γ M cv mc ms pc lv2 st z t) : J l Γ M cv mc ms pc lv st z t :=
  fun v z1 ht p e s m args below meth c H locs cells slots ls hC hK hv hR hL h1 h2 => k v z1 ht p e s m args below meth c H locs cells slots ls hC hK (lv_sub hv ks hs) hR hL h1 h2
theorem J.none : J l Γ M cv mc ms pc lv st z none := fun _ _ h => by cases h

theorem j_iconst {n : Int} {v : Int32} (hd : decode M.2.1 pc = .ok (.iconst n, 1)) (hv : Int32.ofInt n = v) (k : J l Γ M cv mc ms (pc + 1) lv (.int v :: st) z t) : J l Γ M cv mc ms pc lv (st) z t := J.go (fun p e s m args below meth c H locs cells slots ls Q hC hK hv hR hW => lv_iconst hC.1 hC.2.1 hd ‹_› hW) k
theorem j_bipush {n : Int} {v : Int32} (hd : decode M.2.1 pc = .ok (.bipush n, 2)) (hv : (Int8.ofInt n).toInt32 = v) (k : J l Γ M cv mc ms (pc + 2) lv (.int v :: st) z t) : J l Γ M cv mc ms pc lv (st) z t := J.go (fun p e s m args below meth c H locs cells slots ls Q hC hK hv hR hW => lv_bipush hC.1 hC.2.1 hd ‹_› hW) k
theorem j_sipush {n : Int} {v : Int32} (hd : decode M.2.1 pc = .ok (.sipush n, 3)) (hv : (Int16.ofInt n).toInt32 = v) (k : J l Γ M cv mc ms (pc + 3) lv (.int v :: st) z t) : J l Γ M cv mc ms pc lv (st) z t := J.go (fun p e s m args below meth c H locs cells slots ls Q hC hK hv hR hW => lv_sipush hC.1 hC.2.1 hd ‹_› hW) k
theorem j_lconst {n : Fin 2} {v : Int64} (hd : decode M.2.1 pc = .ok (.lconst n, 1)) (hv : Int64.ofNat n = v) (k : J l Γ M cv mc ms (pc + 1) lv (.long v :: st) z t) : J l Γ M cv mc ms pc lv (st) z t := J.go (fun p e s m args below meth c H locs cells slots ls Q hC hK hv hR hW => lv_lconst hC.1 hC.2.1 hd ‹_› hW) k
theorem j_ldc {i : Nat} {v : Int32} (hd : decode M.2.1 pc = .ok (.ldc i, 2)) (hw : Cond.constant M.1 i v ∈ gw) (k : J l Γ M cv mc ms (pc + 2) lv (.int v :: st) z t) : J l Γ M cv mc ms pc lv (st) z t := J.go (fun p e s m args below meth c H locs cells slots ls Q hC hK hv hR hW => lv_ldc hC.1 hC.2.1 hC.2.2.2.1 (hC.2.2.2.2.2.2.2 _ hw) hd hW) k
theorem j_ldcw {i : Nat} {v : Int32} (hd : decode M.2.1 pc = .ok (.ldc_w i, 3)) (hw : Cond.constant M.1 i v ∈ gw) (k : J l Γ M cv mc ms (pc + 3) lv (.int v :: st) z t) : J l Γ M cv mc ms pc lv (st) z t := J.go (fun p e s m args below meth c H locs cells slots ls Q hC hK hv hR hW => lv_ldcw hC.1 hC.2.1 hC.2.2.2.1 (hC.2.2.2.2.2.2.2 _ hw) hd hW) k
theorem j_ldc2 {i : Nat} {v : Int64} (hd : decode M.2.1 pc = .ok (.ldc2_w i, 3)) (hw : Cond.constantLong M.1 i v ∈ gw) (k : J l Γ M cv mc ms (pc + 3) lv (.long v :: st) z t) : J l Γ M cv mc ms pc lv (st) z t := J.go (fun p e s m args below meth c H locs cells slots ls Q hC hK hv hR hW => lv_ldc2 hC.1 hC.2.1 hC.2.2.2.1 (hC.2.2.2.2.2.2.2 _ hw) hd hW) k
theorem j_ldcS {i w : Nat} {tx : String} (hd : decode M.2.1 pc = .ok (.ldc i, 2)) (hw : (M.1, i, tx, w) ∈ str_T) (k : J l Γ M cv mc ms (pc + 2) lv (.ref (mT Γ w) :: st) z t) : J l Γ M cv mc ms pc lv (st) z t := J.go (fun p e s m args below meth c H locs cells slots ls Q hC hK hv hR hW => va_ldcS hC.1 hC.2.1 hC.2.2.2.1 (hK.2.2.2.1 _ hw) hd hW) k
theorem j_iload_n {k0 : Fin 4} {i : Nat} {x : Int32} (n : Nat) (hd : decode M.2.1 pc = .ok (.iload_n k0, 1)) (hi : (k0 : Nat) = i) (hp : lv[n]? = some (i, .int x)) (k : J l Γ M cv mc ms (pc + 1) lv (.int x :: st) z t) : J l Γ M cv mc ms pc lv (st) z t := J.go (fun p e s m args below meth c H locs cells slots ls Q hC hK hv hR hW => lv_iload_n hC.1 hC.2.1 hd hi (lv_at hv n hp) hW) k
theorem j_iload {i : Nat} {x : Int32} (n : Nat) (hd : decode M.2.1 pc = .ok (.iload i, 2)) (hp : lv[n]? = some (i, .int x)) (k : J l Γ M cv mc ms (pc + 2) lv (.int x :: st) z t) : J l Γ M cv mc ms pc lv (st) z t := J.go (fun p e s m args below meth c H locs cells slots ls Q hC hK hv hR hW => lv_iload hC.1 hC.2.1 hd (lv_at hv n hp) hW) k
theorem j_lload_n {k0 : Fin 4} {i : Nat} {x : Int64} (n : Nat) (hd : decode M.2.1 pc = .ok (.lload_n k0, 1)) (hi : (k0 : Nat) = i) (hp : lv[n]? = some (i, .long x)) (k : J l Γ M cv mc ms (pc + 1) lv (.long x :: st) z t) : J l Γ M cv mc ms pc lv (st) z t := J.go (fun p e s m args below meth c H locs cells slots ls Q hC hK hv hR hW => lv_lload_n hC.1 hC.2.1 hd hi (lv_at hv n hp) hW) k
theorem j_lload {i : Nat} {x : Int64} (n : Nat) (hd : decode M.2.1 pc = .ok (.lload i, 2)) (hp : lv[n]? = some (i, .long x)) (k : J l Γ M cv mc ms (pc + 2) lv (.long x :: st) z t) : J l Γ M cv mc ms pc lv (st) z t := J.go (fun p e s m args below meth c H locs cells slots ls Q hC hK hv hR hW => lv_lload hC.1 hC.2.1 hd (lv_at hv n hp) hW) k
theorem j_aload_n {k0 : Fin 4} {i x : Nat} (n : Nat) (hd : decode M.2.1 pc = .ok (.aload_n k0, 1)) (hi : (k0 : Nat) = i) (hp : lv[n]? = some (i, .ref x)) (k : J l Γ M cv mc ms (pc + 1) lv (.ref x :: st) z t) : J l Γ M cv mc ms pc lv (st) z t := J.go (fun p e s m args below meth c H locs cells slots ls Q hC hK hv hR hW => lv_aload_n hC.1 hC.2.1 hd hi (lv_at hv n hp) hW) k
theorem j_aload {i x : Nat} (n : Nat) (hd : decode M.2.1 pc = .ok (.aload i, 2)) (hp : lv[n]? = some (i, .ref x)) (k : J l Γ M cv mc ms (pc + 2) lv (.ref x :: st) z t) : J l Γ M cv mc ms pc lv (st) z t := J.go (fun p e s m args below meth c H locs cells slots ls Q hC hK hv hR hW => lv_aload hC.1 hC.2.1 hd (lv_at hv n hp) hW) k
theorem j_iadd {x y : Int32} (hd : decode M.2.1 pc = .ok (.iadd, 1))  (k : J l Γ M cv mc ms (pc + 1) lv (.int (x + y) :: st) z t) : J l Γ M cv mc ms pc lv (.int y :: .int x :: st) z t := J.go (fun p e s m args below meth c H locs cells slots ls Q hC hK hv hR hW => lv_iadd hC.1 hC.2.1 hd hW) k
theorem j_isub {x y : Int32} (hd : decode M.2.1 pc = .ok (.isub, 1))  (k : J l Γ M cv mc ms (pc + 1) lv (.int (x - y) :: st) z t) : J l Γ M cv mc ms pc lv (.int y :: .int x :: st) z t := J.go (fun p e s m args below meth c H locs cells slots ls Q hC hK hv hR hW => lv_isub hC.1 hC.2.1 hd hW) k
theorem j_imul {x y : Int32} (hd : decode M.2.1 pc = .ok (.imul, 1))  (k : J l Γ M cv mc ms (pc + 1) lv (.int (x * y) :: st) z t) : J l Γ M cv mc ms pc lv (.int y :: .int x :: st) z t := J.go (fun p e s m args below meth c H locs cells slots ls Q hC hK hv hR hW => lv_imul hC.1 hC.2.1 hd hW) k
theorem j_iand {x y : Int32} (hd : decode M.2.1 pc = .ok (.iand, 1))  (k : J l Γ M cv mc ms (pc + 1) lv (.int (x &&& y) :: st) z t) : J l Γ M cv mc ms pc lv (.int y :: .int x :: st) z t := J.go (fun p e s m args below meth c H locs cells slots ls Q hC hK hv hR hW => lv_iand hC.1 hC.2.1 hd hW) k
theorem j_ior {x y : Int32} (hd : decode M.2.1 pc = .ok (.ior, 1))  (k : J l Γ M cv mc ms (pc + 1) lv (.int (x ||| y) :: st) z t) : J l Γ M cv mc ms pc lv (.int y :: .int x :: st) z t := J.go (fun p e s m args below meth c H locs cells slots ls Q hC hK hv hR hW => lv_ior hC.1 hC.2.1 hd hW) k
theorem j_ixor {x y : Int32} (hd : decode M.2.1 pc = .ok (.ixor, 1))  (k : J l Γ M cv mc ms (pc + 1) lv (.int (x ^^^ y) :: st) z t) : J l Γ M cv mc ms pc lv (.int y :: .int x :: st) z t := J.go (fun p e s m args below meth c H locs cells slots ls Q hC hK hv hR hW => lv_ixor hC.1 hC.2.1 hd hW) k
theorem j_ishl {x y : Int32} (hd : decode M.2.1 pc = .ok (.ishl, 1))  (k : J l Γ M cv mc ms (pc + 1) lv (.int (x <<< (y &&& 31)) :: st) z t) : J l Γ M cv mc ms pc lv (.int y :: .int x :: st) z t := J.go (fun p e s m args below meth c H locs cells slots ls Q hC hK hv hR hW => lv_ishl hC.1 hC.2.1 hd hW) k
theorem j_ishr {x y : Int32} (hd : decode M.2.1 pc = .ok (.ishr, 1))  (k : J l Γ M cv mc ms (pc + 1) lv (.int (x >>> (y &&& 31)) :: st) z t) : J l Γ M cv mc ms pc lv (.int y :: .int x :: st) z t := J.go (fun p e s m args below meth c H locs cells slots ls Q hC hK hv hR hW => lv_ishr hC.1 hC.2.1 hd hW) k
theorem j_idiv {x y : Int32} (hd : decode M.2.1 pc = .ok (.idiv, 1)) (hy : ¬ y = 0) (k : J l Γ M cv mc ms (pc + 1) lv (.int (x / y) :: st) z t) : J l Γ M cv mc ms pc lv (.int y :: .int x :: st) z t := J.go (fun p e s m args below meth c H locs cells slots ls Q hC hK hv hR hW => lv_idiv hC.1 hC.2.1 hd hy hW) k
theorem j_irem {x y : Int32} (hd : decode M.2.1 pc = .ok (.irem, 1)) (hy : ¬ y = 0) (k : J l Γ M cv mc ms (pc + 1) lv (.int (x - x / y * y) :: st) z t) : J l Γ M cv mc ms pc lv (.int y :: .int x :: st) z t := J.go (fun p e s m args below meth c H locs cells slots ls Q hC hK hv hR hW => lv_irem hC.1 hC.2.1 hd hy hW) k
theorem j_ineg {x : Int32} (hd : decode M.2.1 pc = .ok (.ineg, 1))  (k : J l Γ M cv mc ms (pc + 1) lv (.int (-x) :: st) z t) : J l Γ M cv mc ms pc lv (.int x :: st) z t := J.go (fun p e s m args below meth c H locs cells slots ls Q hC hK hv hR hW => lv_ineg hC.1 hC.2.1 hd hW) k
theorem j_iushr {x y : Int32} (hd : decode M.2.1 pc = .ok (.iushr, 1))  (k : J l Γ M cv mc ms (pc + 1) lv (.int (x.toUInt32 >>> (y.toUInt32 &&& Int32.toUInt32 31)).toInt32 :: st) z t) : J l Γ M cv mc ms pc lv (.int y :: .int x :: st) z t := J.go (fun p e s m args below meth c H locs cells slots ls Q hC hK hv hR hW => lv_iushr hC.1 hC.2.1 hd rfl hW) k
theorem j_ladd {x y : Int64} (hd : decode M.2.1 pc = .ok (.ladd, 1))  (k : J l Γ M cv mc ms (pc + 1) lv (.long (x + y) :: st) z t) : J l Γ M cv mc ms pc lv (.long y :: .long x :: st) z t := J.go (fun p e s m args below meth c H locs cells slots ls Q hC hK hv hR hW => lv_ladd hC.1 hC.2.1 hd hW) k
theorem j_lmul {x y : Int64} (hd : decode M.2.1 pc = .ok (.lmul, 1))  (k : J l Γ M cv mc ms (pc + 1) lv (.long (x * y) :: st) z t) : J l Γ M cv mc ms pc lv (.long y :: .long x :: st) z t := J.go (fun p e s m args below meth c H locs cells slots ls Q hC hK hv hR hW => lv_lmul hC.1 hC.2.1 hd hW) k
theorem j_land {x y : Int64} (hd : decode M.2.1 pc = .ok (.land, 1))  (k : J l Γ M cv mc ms (pc + 1) lv (.long (x &&& y) :: st) z t) : J l Γ M cv mc ms pc lv (.long y :: .long x :: st) z t := J.go (fun p e s m args below meth c H locs cells slots ls Q hC hK hv hR hW => lv_land hC.1 hC.2.1 hd hW) k
theorem j_lor {x y : Int64} (hd : decode M.2.1 pc = .ok (.lor, 1))  (k : J l Γ M cv mc ms (pc + 1) lv (.long (x ||| y) :: st) z t) : J l Γ M cv mc ms pc lv (.long y :: .long x :: st) z t := J.go (fun p e s m args below meth c H locs cells slots ls Q hC hK hv hR hW => lv_lor hC.1 hC.2.1 hd hW) k
theorem j_ldiv {x y : Int64} (hd : decode M.2.1 pc = .ok (.ldiv, 1)) (hy : ¬ y = 0) (k : J l Γ M cv mc ms (pc + 1) lv (.long (x / y) :: st) z t) : J l Γ M cv mc ms pc lv (.long y :: .long x :: st) z t := J.go (fun p e s m args below meth c H locs cells slots ls Q hC hK hv hR hW => lv_ldiv hC.1 hC.2.1 hd hy hW) k
theorem j_lshl {x : Int64} {y : Int32} (hd : decode M.2.1 pc = .ok (.lshl, 1))  (k : J l Γ M cv mc ms (pc + 1) lv (.long (x <<< (y.toInt64 &&& 63)) :: st) z t) : J l Γ M cv mc ms pc lv (.int y :: .long x :: st) z t := J.go (fun p e s m args below meth c H locs cells slots ls Q hC hK hv hR hW => lv_lshl hC.1 hC.2.1 hd rfl hW) k
theorem j_lshr {x : Int64} {y : Int32} (hd : decode M.2.1 pc = .ok (.lshr, 1))  (k : J l Γ M cv mc ms (pc + 1) lv (.long (x >>> (y.toInt64 &&& 63)) :: st) z t) : J l Γ M cv mc ms pc lv (.int y :: .long x :: st) z t := J.go (fun p e s m args below meth c H locs cells slots ls Q hC hK hv hR hW => lv_lshr hC.1 hC.2.1 hd rfl hW) k
theorem j_lcmp {x y : Int64} (hd : decode M.2.1 pc = .ok (.lcmp, 1))  (k : J l Γ M cv mc ms (pc + 1) lv (.int (lg_cmp x y) :: st) z t) : J l Γ M cv mc ms pc lv (.long y :: .long x :: st) z t := J.go (fun p e s m args below meth c H locs cells slots ls Q hC hK hv hR hW => W.lcmp hC.1 hC.2.1 hd hW) k
theorem j_i2l {x : Int32} (hd : decode M.2.1 pc = .ok (.i2l, 1))  (k : J l Γ M cv mc ms (pc + 1) lv (.long x.toInt64 :: st) z t) : J l Γ M cv mc ms pc lv (.int x :: st) z t := J.go (fun p e s m args below meth c H locs cells slots ls Q hC hK hv hR hW => lv_i2l hC.1 hC.2.1 hd rfl hW) k
theorem j_l2i {x : Int64} (hd : decode M.2.1 pc = .ok (.l2i, 1))  (k : J l Γ M cv mc ms (pc + 1) lv (.int x.toInt32 :: st) z t) : J l Γ M cv mc ms pc lv (.long x :: st) z t := J.go (fun p e s m args below meth c H locs cells slots ls Q hC hK hv hR hW => lv_l2i hC.1 hC.2.1 hd rfl hW) k
theorem j_i2b {x : Int32} (hd : decode M.2.1 pc = .ok (.i2b, 1))  (k : J l Γ M cv mc ms (pc + 1) lv (.int x.toInt8.toInt32 :: st) z t) : J l Γ M cv mc ms pc lv (.int x :: st) z t := J.go (fun p e s m args below meth c H locs cells slots ls Q hC hK hv hR hW => lv_i2b hC.1 hC.2.1 hd rfl hW) k
theorem j_i2s {x : Int32} (hd : decode M.2.1 pc = .ok (.i2s, 1))  (k : J l Γ M cv mc ms (pc + 1) lv (.int x.toInt16.toInt32 :: st) z t) : J l Γ M cv mc ms pc lv (.int x :: st) z t := J.go (fun p e s m args below meth c H locs cells slots ls Q hC hK hv hR hW => lv_i2s hC.1 hC.2.1 hd rfl hW) k
theorem j_dup {va : Value} (hd : decode M.2.1 pc = .ok (.dup, 1)) (h1 : va.category = 1) (k : J l Γ M cv mc ms (pc + 1) lv (va :: va :: st) z t) : J l Γ M cv mc ms pc lv (va :: st) z t := J.go (fun p e s m args below meth c H locs cells slots ls Q hC hK hv hR hW => lv_dup hC.1 hC.2.1 hd h1 hW) k
theorem j_pop {va : Value} (hd : decode M.2.1 pc = .ok (.pop, 1)) (h1 : va.category = 1) (k : J l Γ M cv mc ms (pc + 1) lv (st) z t) : J l Γ M cv mc ms pc lv (va :: st) z t := J.go (fun p e s m args below meth c H locs cells slots ls Q hC hK hv hR hW => lv_pop hC.1 hC.2.1 hd h1 hW) k
theorem j_dup2 {va vb : Value} (hd : decode M.2.1 pc = .ok (.dup2, 1)) (h1 : va.category = 1) (h2 : vb.category = 1) (k : J l Γ M cv mc ms (pc + 1) lv (va :: vb :: va :: vb :: st) z t) : J l Γ M cv mc ms pc lv (va :: vb :: st) z t := J.go (fun p e s m args below meth c H locs cells slots ls Q hC hK hv hR hW => lv_dup2_11 hC.1 hC.2.1 hd h1 h2 hW) k
theorem j_goto {off : Int} (tgt : Nat) (hd : decode M.2.1 pc = .ok (.goto off, 3)) (ht : (pc : Int) + off = (tgt : Int)) (k : J l Γ M cv mc ms tgt lv st z t) : J l Γ M cv mc ms pc lv st z t := J.go (fun p e s m args below meth c H locs cells slots ls Q hC hK hv hR hW => lv_goto hC.1 hC.2.1 hd ht hW) k
theorem j_istore_n {k0 : Fin 4} {i : Nat} {x : Int32} {lv2 : List (Nat × Value)} (hd : decode M.2.1 pc = .ok (.istore_n k0, 1)) (hi : (k0 : Nat) = i) (hn : i < M.2.2.1) (hl : (i, Value.int x) :: lv.filter (fun q => !(q.1 == i) && !(q.1 + 1 == i && q.2.category == 2)) = lv2) (k : J l Γ M cv mc ms (pc + 1) lv2 st z t) : J l Γ M cv mc ms pc lv (.int x :: st) z t :=
  fun v z1 ht p e s m args below meth c H locs cells slots ls hC hK hv hR hL h1 h2 => lv_istore_n hC.1 hC.2.1 hd hi hv hn hl (fun ls' hl' => k v z1 ht p e s m args below meth c H locs cells slots ls' hC hK hl' hR hL h1 h2)
theorem j_istore {i : Nat} {x : Int32} {lv2 : List (Nat × Value)} (hd : decode M.2.1 pc = .ok (.istore i, 2)) (hn : i < M.2.2.1) (hl : (i, Value.int x) :: lv.filter (fun q => !(q.1 == i) && !(q.1 + 1 == i && q.2.category == 2)) = lv2) (k : J l Γ M cv mc ms (pc + 2) lv2 st z t) : J l Γ M cv mc ms pc lv (.int x :: st) z t :=
  fun v z1 ht p e s m args below meth c H locs cells slots ls hC hK hv hR hL h1 h2 => lv_istore hC.1 hC.2.1 hd hv hn hl (fun ls' hl' => k v z1 ht p e s m args below meth c H locs cells slots ls' hC hK hl' hR hL h1 h2)
theorem j_astore_n {k0 : Fin 4} {i : Nat} {x : Nat} {lv2 : List (Nat × Value)} (hd : decode M.2.1 pc = .ok (.astore_n k0, 1)) (hi : (k0 : Nat) = i) (hn : i < M.2.2.1) (hl : (i, Value.ref x) :: lv.filter (fun q => !(q.1 == i) && !(q.1 + 1 == i && q.2.category == 2)) = lv2) (k : J l Γ M cv mc ms (pc + 1) lv2 st z t) : J l Γ M cv mc ms pc lv (.ref x :: st) z t :=
  fun v z1 ht p e s m args below meth c H locs cells slots ls hC hK hv hR hL h1 h2 => lv_astore_n hC.1 hC.2.1 hd hi hv hn hl (fun ls' hl' => k v z1 ht p e s m args below meth c H locs cells slots ls' hC hK hl' hR hL h1 h2)
theorem j_astore {i : Nat} {x : Nat} {lv2 : List (Nat × Value)} (hd : decode M.2.1 pc = .ok (.astore i, 2)) (hn : i < M.2.2.1) (hl : (i, Value.ref x) :: lv.filter (fun q => !(q.1 == i) && !(q.1 + 1 == i && q.2.category == 2)) = lv2) (k : J l Γ M cv mc ms (pc + 2) lv2 st z t) : J l Γ M cv mc ms pc lv (.ref x :: st) z t :=
  fun v z1 ht p e s m args below meth c H locs cells slots ls hC hK hv hR hL h1 h2 => lv_astore hC.1 hC.2.1 hd hv hn hl (fun ls' hl' => k v z1 ht p e s m args below meth c H locs cells slots ls' hC hK hl' hR hL h1 h2)
theorem j_lstore_n {k0 : Fin 4} {i : Nat} {x : Int64} {lv2 : List (Nat × Value)} (hd : decode M.2.1 pc = .ok (.lstore_n k0, 1)) (hi : (k0 : Nat) = i) (hn : i + 1 < M.2.2.1) (hl : (i, Value.long x) :: lv.filter (fun q => !(q.1 == i) && (!(q.1 == i + 1) && !(q.1 + 1 == i && q.2.category == 2))) = lv2) (k : J l Γ M cv mc ms (pc + 1) lv2 st z t) : J l Γ M cv mc ms pc lv (.long x :: st) z t :=
  fun v z1 ht p e s m args below meth c H locs cells slots ls hC hK hv hR hL h1 h2 => lv_lstore_n hC.1 hC.2.1 hd hi hv hn hl (fun ls' hl' => k v z1 ht p e s m args below meth c H locs cells slots ls' hC hK hl' hR hL h1 h2)
theorem j_lstore {i : Nat} {x : Int64} {lv2 : List (Nat × Value)} (hd : decode M.2.1 pc = .ok (.lstore i, 2)) (hn : i + 1 < M.2.2.1) (hl : (i, Value.long x) :: lv.filter (fun q => !(q.1 == i) && (!(q.1 == i + 1) && !(q.1 + 1 == i && q.2.category == 2))) = lv2) (k : J l Γ M cv mc ms (pc + 2) lv2 st z t) : J l Γ M cv mc ms pc lv (.long x :: st) z t :=
  fun v z1 ht p e s m args below meth c H locs cells slots ls hC hK hv hR hL h1 h2 => lv_lstore hC.1 hC.2.1 hd hv hn hl (fun ls' hl' => k v z1 ht p e s m args below meth c H locs cells slots ls' hC hK hl' hR hL h1 h2)
theorem j_iinc {i n0 : Nat} {n : Int} {x v0 : Int32} {lv2 : List (Nat × Value)} (hd : decode M.2.1 pc = .ok (.iinc i n, 3)) (hk0 : lv[n0]? = some (i, .int x)) (hv0 : x + Int32.ofInt n = v0) (hn : i < M.2.2.1) (hl : (i, Value.int v0) :: lv.filter (fun q => !(q.1 == i) && !(q.1 + 1 == i && q.2.category == 2)) = lv2) (k : J l Γ M cv mc ms (pc + 3) lv2 st z t) : J l Γ M cv mc ms pc lv st z t :=
  fun v z1 ht p e s m args below meth c H locs cells slots ls hC hK hv hR hL h1 h2 => lv_iinc hC.1 hC.2.1 hd hv hk0 hv0 hn hl (fun ls' hl' => k v z1 ht p e s m args below meth c H locs cells slots ls' hC hK hl' hR hL h1 h2)
theorem j_if_eq {x : Int32} {off : Int} {t1 t2 : Option (ρ × Hp)} (tgt : Nat) (hd : decode M.2.1 pc = .ok (.ifCond .eq off, 3)) (ht : (pc : Int) + off = (tgt : Int)) (kt : J l Γ M cv mc ms tgt lv st z t1) (kf : J l Γ M cv mc ms (pc + 3) lv st z t2) : J l Γ M cv mc ms pc lv (.int x :: st) z (if x = 0 then t1 else t2) := by
  intro v z1 hz p e s m args below meth c H locs cells slots ls hC hK hv hR hL h1 h2
  refine lv_if_eq hC.1 hC.2.1 hd ht (fun hc => kt v z1 ?_ p e s m args below meth c H locs cells slots ls hC hK hv hR hL h1 h2) (fun hc => kf v z1 ?_ p e s m args below meth c H locs cells slots ls hC hK hv hR hL h1 h2)
  · first | (rw [if_pos hc] at hz; exact hz) | (rw [if_neg hc] at hz; exact hz) | (rw [if_neg (Int32.not_lt.mpr hc)] at hz; exact hz)
  · first | (rw [if_neg hc] at hz; exact hz) | (rw [if_pos hc] at hz; exact hz) | (rw [if_pos (Int32.not_le.mp hc)] at hz; exact hz)
theorem j_if_ne {x : Int32} {off : Int} {t1 t2 : Option (ρ × Hp)} (tgt : Nat) (hd : decode M.2.1 pc = .ok (.ifCond .ne off, 3)) (ht : (pc : Int) + off = (tgt : Int)) (kt : J l Γ M cv mc ms tgt lv st z t2) (kf : J l Γ M cv mc ms (pc + 3) lv st z t1) : J l Γ M cv mc ms pc lv (.int x :: st) z (if x = 0 then t1 else t2) := by
  intro v z1 hz p e s m args below meth c H locs cells slots ls hC hK hv hR hL h1 h2
  refine lv_if_ne hC.1 hC.2.1 hd ht (fun hc => kt v z1 ?_ p e s m args below meth c H locs cells slots ls hC hK hv hR hL h1 h2) (fun hc => kf v z1 ?_ p e s m args below meth c H locs cells slots ls hC hK hv hR hL h1 h2)
  · first | (rw [if_pos hc] at hz; exact hz) | (rw [if_neg hc] at hz; exact hz) | (rw [if_neg (Int32.not_lt.mpr hc)] at hz; exact hz)
  · first | (rw [if_neg hc] at hz; exact hz) | (rw [if_pos hc] at hz; exact hz) | (rw [if_pos (Int32.not_le.mp hc)] at hz; exact hz)
theorem j_if_lt {x : Int32} {off : Int} {t1 t2 : Option (ρ × Hp)} (tgt : Nat) (hd : decode M.2.1 pc = .ok (.ifCond .lt off, 3)) (ht : (pc : Int) + off = (tgt : Int)) (kt : J l Γ M cv mc ms tgt lv st z t1) (kf : J l Γ M cv mc ms (pc + 3) lv st z t2) : J l Γ M cv mc ms pc lv (.int x :: st) z (if x < 0 then t1 else t2) := by
  intro v z1 hz p e s m args below meth c H locs cells slots ls hC hK hv hR hL h1 h2
  refine lv_if_lt hC.1 hC.2.1 hd ht (fun hc => kt v z1 ?_ p e s m args below meth c H locs cells slots ls hC hK hv hR hL h1 h2) (fun hc => kf v z1 ?_ p e s m args below meth c H locs cells slots ls hC hK hv hR hL h1 h2)
  · first | (rw [if_pos hc] at hz; exact hz) | (rw [if_neg hc] at hz; exact hz) | (rw [if_neg (Int32.not_lt.mpr hc)] at hz; exact hz)
  · first | (rw [if_neg hc] at hz; exact hz) | (rw [if_pos hc] at hz; exact hz) | (rw [if_pos (Int32.not_le.mp hc)] at hz; exact hz)
theorem j_if_ge {x : Int32} {off : Int} {t1 t2 : Option (ρ × Hp)} (tgt : Nat) (hd : decode M.2.1 pc = .ok (.ifCond .ge off, 3)) (ht : (pc : Int) + off = (tgt : Int)) (kt : J l Γ M cv mc ms tgt lv st z t2) (kf : J l Γ M cv mc ms (pc + 3) lv st z t1) : J l Γ M cv mc ms pc lv (.int x :: st) z (if x < 0 then t1 else t2) := by
  intro v z1 hz p e s m args below meth c H locs cells slots ls hC hK hv hR hL h1 h2
  refine lv_if_ge hC.1 hC.2.1 hd ht (fun hc => kt v z1 ?_ p e s m args below meth c H locs cells slots ls hC hK hv hR hL h1 h2) (fun hc => kf v z1 ?_ p e s m args below meth c H locs cells slots ls hC hK hv hR hL h1 h2)
  · first | (rw [if_pos hc] at hz; exact hz) | (rw [if_neg hc] at hz; exact hz) | (rw [if_neg (Int32.not_lt.mpr hc)] at hz; exact hz)
  · first | (rw [if_neg hc] at hz; exact hz) | (rw [if_pos hc] at hz; exact hz) | (rw [if_pos (Int32.not_le.mp hc)] at hz; exact hz)
theorem j_if_gt {x : Int32} {off : Int} {t1 t2 : Option (ρ × Hp)} (tgt : Nat) (hd : decode M.2.1 pc = .ok (.ifCond .gt off, 3)) (ht : (pc : Int) + off = (tgt : Int)) (kt : J l Γ M cv mc ms tgt lv st z t1) (kf : J l Γ M cv mc ms (pc + 3) lv st z t2) : J l Γ M cv mc ms pc lv (.int x :: st) z (if 0 < x then t1 else t2) := by
  intro v z1 hz p e s m args below meth c H locs cells slots ls hC hK hv hR hL h1 h2
  refine lv_if_gt hC.1 hC.2.1 hd ht (fun hc => kt v z1 ?_ p e s m args below meth c H locs cells slots ls hC hK hv hR hL h1 h2) (fun hc => kf v z1 ?_ p e s m args below meth c H locs cells slots ls hC hK hv hR hL h1 h2)
  · first | (rw [if_pos hc] at hz; exact hz) | (rw [if_neg hc] at hz; exact hz) | (rw [if_neg (Int32.not_lt.mpr hc)] at hz; exact hz)
  · first | (rw [if_neg hc] at hz; exact hz) | (rw [if_pos hc] at hz; exact hz) | (rw [if_pos (Int32.not_le.mp hc)] at hz; exact hz)
theorem j_if_le {x : Int32} {off : Int} {t1 t2 : Option (ρ × Hp)} (tgt : Nat) (hd : decode M.2.1 pc = .ok (.ifCond .le off, 3)) (ht : (pc : Int) + off = (tgt : Int)) (kt : J l Γ M cv mc ms tgt lv st z t2) (kf : J l Γ M cv mc ms (pc + 3) lv st z t1) : J l Γ M cv mc ms pc lv (.int x :: st) z (if 0 < x then t1 else t2) := by
  intro v z1 hz p e s m args below meth c H locs cells slots ls hC hK hv hR hL h1 h2
  refine lv_if_le hC.1 hC.2.1 hd ht (fun hc => kt v z1 ?_ p e s m args below meth c H locs cells slots ls hC hK hv hR hL h1 h2) (fun hc => kf v z1 ?_ p e s m args below meth c H locs cells slots ls hC hK hv hR hL h1 h2)
  · first | (rw [if_pos hc] at hz; exact hz) | (rw [if_neg hc] at hz; exact hz) | (rw [if_neg (Int32.not_lt.mpr hc)] at hz; exact hz)
  · first | (rw [if_neg hc] at hz; exact hz) | (rw [if_pos hc] at hz; exact hz) | (rw [if_pos (Int32.not_le.mp hc)] at hz; exact hz)
theorem j_icmp_eq {x y : Int32} {off : Int} {t1 t2 : Option (ρ × Hp)} (tgt : Nat) (hd : decode M.2.1 pc = .ok (.if_icmp .eq off, 3)) (ht : (pc : Int) + off = (tgt : Int)) (kt : J l Γ M cv mc ms tgt lv st z t1) (kf : J l Γ M cv mc ms (pc + 3) lv st z t2) : J l Γ M cv mc ms pc lv (.int y :: .int x :: st) z (if x = y then t1 else t2) := by
  intro v z1 hz p e s m args below meth c H locs cells slots ls hC hK hv hR hL h1 h2
  refine lv_icmp_eq hC.1 hC.2.1 hd ht (fun hc => kt v z1 ?_ p e s m args below meth c H locs cells slots ls hC hK hv hR hL h1 h2) (fun hc => kf v z1 ?_ p e s m args below meth c H locs cells slots ls hC hK hv hR hL h1 h2)
  · first | (rw [if_pos hc] at hz; exact hz) | (rw [if_neg hc] at hz; exact hz) | (rw [if_neg (Int32.not_lt.mpr hc)] at hz; exact hz)
  · first | (rw [if_neg hc] at hz; exact hz) | (rw [if_pos hc] at hz; exact hz) | (rw [if_pos (Int32.not_le.mp hc)] at hz; exact hz)
theorem j_icmp_ne {x y : Int32} {off : Int} {t1 t2 : Option (ρ × Hp)} (tgt : Nat) (hd : decode M.2.1 pc = .ok (.if_icmp .ne off, 3)) (ht : (pc : Int) + off = (tgt : Int)) (kt : J l Γ M cv mc ms tgt lv st z t2) (kf : J l Γ M cv mc ms (pc + 3) lv st z t1) : J l Γ M cv mc ms pc lv (.int y :: .int x :: st) z (if x = y then t1 else t2) := by
  intro v z1 hz p e s m args below meth c H locs cells slots ls hC hK hv hR hL h1 h2
  refine lv_icmp_ne hC.1 hC.2.1 hd ht (fun hc => kt v z1 ?_ p e s m args below meth c H locs cells slots ls hC hK hv hR hL h1 h2) (fun hc => kf v z1 ?_ p e s m args below meth c H locs cells slots ls hC hK hv hR hL h1 h2)
  · first | (rw [if_pos hc] at hz; exact hz) | (rw [if_neg hc] at hz; exact hz) | (rw [if_neg (Int32.not_lt.mpr hc)] at hz; exact hz)
  · first | (rw [if_neg hc] at hz; exact hz) | (rw [if_pos hc] at hz; exact hz) | (rw [if_pos (Int32.not_le.mp hc)] at hz; exact hz)
theorem j_icmp_lt {x y : Int32} {off : Int} {t1 t2 : Option (ρ × Hp)} (tgt : Nat) (hd : decode M.2.1 pc = .ok (.if_icmp .lt off, 3)) (ht : (pc : Int) + off = (tgt : Int)) (kt : J l Γ M cv mc ms tgt lv st z t1) (kf : J l Γ M cv mc ms (pc + 3) lv st z t2) : J l Γ M cv mc ms pc lv (.int y :: .int x :: st) z (if x < y then t1 else t2) := by
  intro v z1 hz p e s m args below meth c H locs cells slots ls hC hK hv hR hL h1 h2
  refine lv_icmp_lt hC.1 hC.2.1 hd ht (fun hc => kt v z1 ?_ p e s m args below meth c H locs cells slots ls hC hK hv hR hL h1 h2) (fun hc => kf v z1 ?_ p e s m args below meth c H locs cells slots ls hC hK hv hR hL h1 h2)
  · first | (rw [if_pos hc] at hz; exact hz) | (rw [if_neg hc] at hz; exact hz) | (rw [if_neg (Int32.not_lt.mpr hc)] at hz; exact hz)
  · first | (rw [if_neg hc] at hz; exact hz) | (rw [if_pos hc] at hz; exact hz) | (rw [if_pos (Int32.not_le.mp hc)] at hz; exact hz)
theorem j_icmp_ge {x y : Int32} {off : Int} {t1 t2 : Option (ρ × Hp)} (tgt : Nat) (hd : decode M.2.1 pc = .ok (.if_icmp .ge off, 3)) (ht : (pc : Int) + off = (tgt : Int)) (kt : J l Γ M cv mc ms tgt lv st z t2) (kf : J l Γ M cv mc ms (pc + 3) lv st z t1) : J l Γ M cv mc ms pc lv (.int y :: .int x :: st) z (if x < y then t1 else t2) := by
  intro v z1 hz p e s m args below meth c H locs cells slots ls hC hK hv hR hL h1 h2
  refine lv_icmp_ge hC.1 hC.2.1 hd ht (fun hc => kt v z1 ?_ p e s m args below meth c H locs cells slots ls hC hK hv hR hL h1 h2) (fun hc => kf v z1 ?_ p e s m args below meth c H locs cells slots ls hC hK hv hR hL h1 h2)
  · first | (rw [if_pos hc] at hz; exact hz) | (rw [if_neg hc] at hz; exact hz) | (rw [if_neg (Int32.not_lt.mpr hc)] at hz; exact hz)
  · first | (rw [if_neg hc] at hz; exact hz) | (rw [if_pos hc] at hz; exact hz) | (rw [if_pos (Int32.not_le.mp hc)] at hz; exact hz)
theorem j_icmp_gt {x y : Int32} {off : Int} {t1 t2 : Option (ρ × Hp)} (tgt : Nat) (hd : decode M.2.1 pc = .ok (.if_icmp .gt off, 3)) (ht : (pc : Int) + off = (tgt : Int)) (kt : J l Γ M cv mc ms tgt lv st z t1) (kf : J l Γ M cv mc ms (pc + 3) lv st z t2) : J l Γ M cv mc ms pc lv (.int y :: .int x :: st) z (if y < x then t1 else t2) := by
  intro v z1 hz p e s m args below meth c H locs cells slots ls hC hK hv hR hL h1 h2
  refine lv_icmp_gt hC.1 hC.2.1 hd ht (fun hc => kt v z1 ?_ p e s m args below meth c H locs cells slots ls hC hK hv hR hL h1 h2) (fun hc => kf v z1 ?_ p e s m args below meth c H locs cells slots ls hC hK hv hR hL h1 h2)
  · first | (rw [if_pos hc] at hz; exact hz) | (rw [if_neg hc] at hz; exact hz) | (rw [if_neg (Int32.not_lt.mpr hc)] at hz; exact hz)
  · first | (rw [if_neg hc] at hz; exact hz) | (rw [if_pos hc] at hz; exact hz) | (rw [if_pos (Int32.not_le.mp hc)] at hz; exact hz)
theorem j_icmp_le {x y : Int32} {off : Int} {t1 t2 : Option (ρ × Hp)} (tgt : Nat) (hd : decode M.2.1 pc = .ok (.if_icmp .le off, 3)) (ht : (pc : Int) + off = (tgt : Int)) (kt : J l Γ M cv mc ms tgt lv st z t2) (kf : J l Γ M cv mc ms (pc + 3) lv st z t1) : J l Γ M cv mc ms pc lv (.int y :: .int x :: st) z (if y < x then t1 else t2) := by
  intro v z1 hz p e s m args below meth c H locs cells slots ls hC hK hv hR hL h1 h2
  refine lv_icmp_le hC.1 hC.2.1 hd ht (fun hc => kt v z1 ?_ p e s m args below meth c H locs cells slots ls hC hK hv hR hL h1 h2) (fun hc => kf v z1 ?_ p e s m args below meth c H locs cells slots ls hC hK hv hR hL h1 h2)
  · first | (rw [if_pos hc] at hz; exact hz) | (rw [if_neg hc] at hz; exact hz) | (rw [if_neg (Int32.not_lt.mpr hc)] at hz; exact hz)
  · first | (rw [if_neg hc] at hz; exact hz) | (rw [if_pos hc] at hz; exact hz) | (rw [if_pos (Int32.not_le.mp hc)] at hz; exact hz)
theorem j_ite {C : Prop} [Decidable C] {t1 t2 : Option (ρ × Hp)} (h1 : C → J l Γ M cv mc ms pc lv st z t1) (h2 : ¬ C → J l Γ M cv mc ms pc lv st z t2) : J l Γ M cv mc ms pc lv st z (if C then t1 else t2) := by
  by_cases h : C
  · rw [if_pos h]; exact h1 h
  · rw [if_neg h]; exact h2 h
/-- a switch: the case k -/
theorem j_case {dflt lo hi off : Int} {offs : Array Int} {len : Nat} {x k0 : Int32} (tgt : Nat) (hd : decode M.2.1 pc = .ok (.tableswitch dflt lo hi offs, len)) (hx : x = k0) (hr : ¬ k0.toInt < lo ∧ ¬ hi < k0.toInt) (ho : offs[(k0.toInt - lo).toNat]? = some off) (ht : (pc : Int) + off = (tgt : Int)) (k : J l Γ M cv mc ms tgt lv st z t) : J l Γ M cv mc ms pc lv (.int x :: st) z t := by
  subst hx
  exact J.go (fun p e s m args below meth c H locs cells slots ls Q hC hK hv hR hW => lv_tableIn hC.1 hC.2.1 hd hr.1 hr.2 ho ht hW) k
theorem j_dflt {dflt lo hi : Int} {offs : Array Int} {len : Nat} {x : Int32} (tgt : Nat) (hd : decode M.2.1 pc = .ok (.tableswitch dflt lo hi offs, len)) (hx : x.toInt < lo ∨ hi < x.toInt) (ht : (pc : Int) + dflt = (tgt : Int)) (k : J l Γ M cv mc ms tgt lv st z t) : J l Γ M cv mc ms pc lv (.int x :: st) z t :=
  J.go (fun p e s m args below meth c H locs cells slots ls Q hC hK hv hR hW => lv_tableOut hC.1 hC.2.1 hd hx ht hW) k
end JROWS
/-- outside a switch's cases -/
theorem sw_out (n : Nat) (hn : n < 2 ^ 31) {x : Int32} (h : ∀ k, k < n → ¬ x = nI k) : x.toInt < 0 ∨ (n : Int) - 1 < x.toInt := by
  by_cases h0 : x < 0
  · exact Or.inl (by simpa [Int32.lt_iff_toInt_lt] using h0)
  · obtain ⟨j, hj, rfl⟩ := nI_of h0
    refine Or.inr ?_
    rw [nI_toInt hj]
    by_cases hjn : j < n
    · exact absurd rfl (h j hjn)
    · omega
