theorem anL {a b : Cond} {args : Array Value} {s : State} (h : (Cond.and a b).before args s = true) : a.before args s = true := by
  rw [Cond.before_and, Bool.and_eq_true] at h
  exact h.1
theorem anR {a b : Cond} {args : Array Value} {s : State} (h : (Cond.and a b).before args s = true) : b.before args s = true := by
  rw [Cond.before_and, Bool.and_eq_true] at h
  exact h.2
/-- one text of the start -/
def StrP (own : String) (k : Nat) (bs : List Int32) (A : Nat → Prop) (args : Array Value) (s : State) (q : Nat × Nat) : Prop :=
  (Term.string own k).eval args s none [] s = some (.ref q.1) ∧ va_O "java/lang/String" q.1 A s s.heap ∧ va_OF "java/lang/String" "coder" "B" (.int 0) q.1 A s s.heap ∧ va_OF "java/lang/String" "value" "[B" (.ref q.2) q.1 A s s.heap ∧ va_T .byte q.2 bs.length (fun j => .int (bs.getD j 0)) A s s.heap
theorem str_one {args : Array Value} {s : State} {own : String} {k : Nat} {bs : List Int32} {A : Nat → Prop} (hl : bs.length < 2 ^ 31) (hex : (Cond.exactly (.string own k) "java/lang/String").before args s = true) (hco : (Cond.eq (.field (.string own k) "java/lang/String" "coder" "B") (.int 0)).before args s = true)
    (har : (Cond.arrayOf (.field (.string own k) "java/lang/String" "value" "[B") .byte).before args s = true) (hle : (Cond.eq (.length (.field (.string own k) "java/lang/String" "value" "[B")) (.int (Int32.ofNat bs.length))).before args s = true)
    (hel : ∀ j : Nat, j < bs.length → (Cond.eq (.elem (.field (.string own k) "java/lang/String" "value" "[B") (.int (Int32.ofNat j))) (.int (bs.getD j 0))).before args s = true) (hA : ∀ a : Nat, a < s.heap.size → ¬ A a) : ∃ q, StrP own k bs A args s q := by
  obtain ⟨a, c, cA, kA, q1, q2, q3, q4, q5, q6, -⟩ := Cond.exactly_spec (args := args) (first := s) (o := none) (s := s) (idx := []) (t := .string own k) (cls := "java/lang/String") hex
  obtain ⟨t, ht, hT⟩ := va_Tof (f := fun j => .int (bs.getD j 0)) (A := A) hl har (va_eqt hle) (fun j hj => va_eqt (hel j hj)) hA
  exact ⟨(a, t), q1, ⟨cA, q3, q5, by rw [q6]; exact q2, hA a (Array.getElem?_eq_some_iff.mp q3).1⟩, vk_OFof q1 (va_eqt hco) hA, vk_OFof q1 ht hA, hT⟩
theorem str_0 {args : Array Value} {s : State} {A : Nat → Prop} (hN : narrow_1.before args s = true) (hA : ∀ a : Nat, a < s.heap.size → ¬ A a) : ∃ q, StrP "FrostRing$Parser" 64 [103, 114, 111, 117, 110, 100] A args s q :=
  str_one (by decide) (anL (anR (anL (anR (anL (anL (anL (anL (anL hN))))))))) (anR (anR (anL (anR (anL (anL (anL (anL (anL hN))))))))) (anL (anR (anR (anL (anL (anL (anL (anL hN)))))))) (anL (anR (anR (anR (anL (anL (anL (anL (anL hN))))))))) (fun j hj => match j, hj with
  | 0, _ => (anR (anR (anR (anR (anL (anL (anL (anL (anL hN)))))))))
  | 1, _ => (anL (anL (anL (anR (anL (anL (anL (anL hN))))))))
  | 2, _ => (anL (anR (anL (anL (anR (anL (anL (anL (anL hN)))))))))
  | 3, _ => (anR (anR (anL (anL (anR (anL (anL (anL (anL hN)))))))))
  | 4, _ => (anL (anR (anL (anR (anL (anL (anL (anL hN))))))))
  | 5, _ => (anL (anR (anR (anL (anR (anL (anL (anL (anL hN)))))))))
  | j + 6, h => absurd h (by simp only [List.length_cons, List.length_nil]; omega)) hA
theorem str_1 {args : Array Value} {s : State} {A : Nat → Prop} (hN : narrow_1.before args s = true) (hA : ∀ a : Nat, a < s.heap.size → ¬ A a) : ∃ q, StrP "FrostRing$Parser" 161 [108, 101, 97, 100] A args s q :=
  str_one (by decide) (anR (anR (anR (anL (anR (anL (anL (anL (anL hN))))))))) (anL (anL (anR (anR (anL (anL (anL (anL hN)))))))) (anL (anR (anL (anR (anR (anL (anL (anL (anL hN))))))))) (anR (anR (anL (anR (anR (anL (anL (anL (anL hN))))))))) (fun j hj => match j, hj with
  | 0, _ => (anL (anL (anR (anR (anR (anL (anL (anL (anL hN)))))))))
  | 1, _ => (anR (anL (anR (anR (anR (anL (anL (anL (anL hN)))))))))
  | 2, _ => (anL (anR (anR (anR (anR (anL (anL (anL (anL hN)))))))))
  | 3, _ => (anR (anR (anR (anR (anR (anL (anL (anL (anL hN)))))))))
  | j + 4, h => absurd h (by simp only [List.length_cons, List.length_nil]; omega)) hA
theorem str_2 {args : Array Value} {s : State} {A : Nat → Prop} (hN : narrow_1.before args s = true) (hA : ∀ a : Nat, a < s.heap.size → ¬ A a) : ∃ q, StrP "FrostRing$Parser" 175 [105, 99, 101] A args s q :=
  str_one (by decide) (anL (anL (anL (anL (anR (anL (anL (anL hN)))))))) (anL (anR (anL (anL (anL (anR (anL (anL (anL hN))))))))) (anR (anR (anL (anL (anL (anR (anL (anL (anL hN))))))))) (anL (anR (anL (anL (anR (anL (anL (anL hN)))))))) (fun j hj => match j, hj with
  | 0, _ => (anL (anR (anR (anL (anL (anR (anL (anL (anL hN)))))))))
  | 1, _ => (anR (anR (anR (anL (anL (anR (anL (anL (anL hN)))))))))
  | 2, _ => (anL (anL (anR (anL (anR (anL (anL (anL hN))))))))
  | j + 3, h => absurd h (by simp only [List.length_cons, List.length_nil]; omega)) hA
theorem str_3 {args : Array Value} {s : State} {A : Nat → Prop} (hN : narrow_1.before args s = true) (hA : ∀ a : Nat, a < s.heap.size → ¬ A a) : ∃ q, StrP "FrostRing$Parser" 180 [108, 97, 116, 101, 110, 116] A args s q :=
  str_one (by decide) (anL (anR (anL (anR (anL (anR (anL (anL (anL hN))))))))) (anR (anR (anL (anR (anL (anR (anL (anL (anL hN))))))))) (anL (anL (anR (anR (anL (anR (anL (anL (anL hN))))))))) (anR (anL (anR (anR (anL (anR (anL (anL (anL hN))))))))) (fun j hj => match j, hj with
  | 0, _ => (anL (anR (anR (anR (anL (anR (anL (anL (anL hN)))))))))
  | 1, _ => (anR (anR (anR (anR (anL (anR (anL (anL (anL hN)))))))))
  | 2, _ => (anL (anL (anL (anR (anR (anL (anL (anL hN))))))))
  | 3, _ => (anL (anR (anL (anL (anR (anR (anL (anL (anL hN)))))))))
  | 4, _ => (anR (anR (anL (anL (anR (anR (anL (anL (anL hN)))))))))
  | 5, _ => (anL (anR (anL (anR (anR (anL (anL (anL hN))))))))
  | j + 6, h => absurd h (by simp only [List.length_cons, List.length_nil]; omega)) hA
theorem str_4 {args : Array Value} {s : State} {A : Nat → Prop} (hN : narrow_1.before args s = true) (hA : ∀ a : Nat, a < s.heap.size → ¬ A a) : ∃ q, StrP "FrostRing$Parser" 184 [109, 97, 114, 107] A args s q :=
  str_one (by decide) (anL (anR (anR (anL (anR (anR (anL (anL (anL hN))))))))) (anR (anR (anR (anL (anR (anR (anL (anL (anL hN))))))))) (anL (anL (anR (anR (anR (anL (anL (anL hN)))))))) (anL (anR (anL (anR (anR (anR (anL (anL (anL hN))))))))) (fun j hj => match j, hj with
  | 0, _ => (anR (anR (anL (anR (anR (anR (anL (anL (anL hN)))))))))
  | 1, _ => (anL (anL (anR (anR (anR (anR (anL (anL (anL hN)))))))))
  | 2, _ => (anR (anL (anR (anR (anR (anR (anL (anL (anL hN)))))))))
  | 3, _ => (anL (anR (anR (anR (anR (anR (anL (anL (anL hN)))))))))
  | j + 4, h => absurd h (by simp only [List.length_cons, List.length_nil]; omega)) hA
theorem str_5 {args : Array Value} {s : State} {A : Nat → Prop} (hN : narrow_1.before args s = true) (hA : ∀ a : Nat, a < s.heap.size → ¬ A a) : ∃ q, StrP "FrostRing$Parser" 77 [108, 97, 121] A args s q :=
  str_one (by decide) (anR (anR (anR (anR (anR (anR (anL (anL (anL hN))))))))) (anL (anL (anL (anL (anL (anR (anL (anL hN)))))))) (anL (anR (anL (anL (anL (anL (anR (anL (anL hN))))))))) (anR (anR (anL (anL (anL (anL (anR (anL (anL hN))))))))) (fun j hj => match j, hj with
  | 0, _ => (anL (anR (anL (anL (anL (anR (anL (anL hN))))))))
  | 1, _ => (anL (anR (anR (anL (anL (anL (anR (anL (anL hN)))))))))
  | 2, _ => (anR (anR (anR (anL (anL (anL (anR (anL (anL hN)))))))))
  | j + 3, h => absurd h (by simp only [List.length_cons, List.length_nil]; omega)) hA
theorem str_6 {args : Array Value} {s : State} {A : Nat → Prop} (hN : narrow_1.before args s = true) (hA : ∀ a : Nat, a < s.heap.size → ¬ A a) : ∃ q, StrP "FrostRing$Parser" 188 [116, 111] A args s q :=
  str_one (by decide) (anL (anL (anR (anL (anL (anR (anL (anL hN)))))))) (anL (anR (anL (anR (anL (anL (anR (anL (anL hN))))))))) (anR (anR (anL (anR (anL (anL (anR (anL (anL hN))))))))) (anL (anL (anR (anR (anL (anL (anR (anL (anL hN))))))))) (fun j hj => match j, hj with
  | 0, _ => (anR (anL (anR (anR (anL (anL (anR (anL (anL hN)))))))))
  | 1, _ => (anL (anR (anR (anR (anL (anL (anR (anL (anL hN)))))))))
  | j + 2, h => absurd h (by simp only [List.length_cons, List.length_nil]; omega)) hA
theorem str_7 {args : Array Value} {s : State} {A : Nat → Prop} (hN : narrow_1.before args s = true) (hA : ∀ a : Nat, a < s.heap.size → ¬ A a) : ∃ q, StrP "FrostRing$Parser" 82 [115, 116, 114, 101, 97, 109] A args s q :=
  str_one (by decide) (anR (anR (anR (anR (anL (anL (anR (anL (anL hN))))))))) (anL (anL (anL (anR (anL (anR (anL (anL hN)))))))) (anL (anR (anL (anL (anR (anL (anR (anL (anL hN))))))))) (anR (anR (anL (anL (anR (anL (anR (anL (anL hN))))))))) (fun j hj => match j, hj with
  | 0, _ => (anL (anR (anL (anR (anL (anR (anL (anL hN))))))))
  | 1, _ => (anL (anR (anR (anL (anR (anL (anR (anL (anL hN)))))))))
  | 2, _ => (anR (anR (anR (anL (anR (anL (anR (anL (anL hN)))))))))
  | 3, _ => (anL (anL (anR (anR (anL (anR (anL (anL hN))))))))
  | 4, _ => (anL (anR (anL (anR (anR (anL (anR (anL (anL hN)))))))))
  | 5, _ => (anR (anR (anL (anR (anR (anL (anR (anL (anL hN)))))))))
  | j + 6, h => absurd h (by simp only [List.length_cons, List.length_nil]; omega)) hA
theorem str_8 {args : Array Value} {s : State} {A : Nat → Prop} (hN : narrow_1.before args s = true) (hA : ∀ a : Nat, a < s.heap.size → ¬ A a) : ∃ q, StrP "FrostRing$Parser" 199 [115, 112, 101, 101, 100] A args s q :=
  str_one (by decide) (anL (anL (anR (anR (anR (anL (anR (anL (anL hN))))))))) (anR (anL (anR (anR (anR (anL (anR (anL (anL hN))))))))) (anL (anR (anR (anR (anR (anL (anR (anL (anL hN))))))))) (anR (anR (anR (anR (anR (anL (anR (anL (anL hN))))))))) (fun j hj => match j, hj with
  | 0, _ => (anL (anL (anL (anL (anR (anR (anL (anL hN))))))))
  | 1, _ => (anL (anR (anL (anL (anL (anR (anR (anL (anL hN)))))))))
  | 2, _ => (anR (anR (anL (anL (anL (anR (anR (anL (anL hN)))))))))
  | 3, _ => (anL (anR (anL (anL (anR (anR (anL (anL hN))))))))
  | 4, _ => (anL (anR (anR (anL (anL (anR (anR (anL (anL hN)))))))))
  | j + 5, h => absurd h (by simp only [List.length_cons, List.length_nil]; omega)) hA
theorem str_9 {args : Array Value} {s : State} {A : Nat → Prop} (hN : narrow_1.before args s = true) (hA : ∀ a : Nat, a < s.heap.size → ¬ A a) : ∃ q, StrP "FrostRing$Parser" 87 [102, 97, 114] A args s q :=
  str_one (by decide) (anR (anR (anR (anL (anL (anR (anR (anL (anL hN))))))))) (anL (anL (anR (anL (anR (anR (anL (anL hN)))))))) (anL (anR (anL (anR (anL (anR (anR (anL (anL hN))))))))) (anR (anR (anL (anR (anL (anR (anR (anL (anL hN))))))))) (fun j hj => match j, hj with
  | 0, _ => (anL (anL (anR (anR (anL (anR (anR (anL (anL hN)))))))))
  | 1, _ => (anR (anL (anR (anR (anL (anR (anR (anL (anL hN)))))))))
  | 2, _ => (anL (anR (anR (anR (anL (anR (anR (anL (anL hN)))))))))
  | j + 3, h => absurd h (by simp only [List.length_cons, List.length_nil]; omega)) hA
theorem str_10 {args : Array Value} {s : State} {A : Nat → Prop} (hN : narrow_1.before args s = true) (hA : ∀ a : Nat, a < s.heap.size → ¬ A a) : ∃ q, StrP "FrostRing$Parser" 92 [115, 104, 97, 102, 116] A args s q :=
  str_one (by decide) (anR (anR (anR (anR (anL (anR (anR (anL (anL hN))))))))) (anL (anL (anL (anR (anR (anR (anL (anL hN)))))))) (anL (anR (anL (anL (anR (anR (anR (anL (anL hN))))))))) (anR (anR (anL (anL (anR (anR (anR (anL (anL hN))))))))) (fun j hj => match j, hj with
  | 0, _ => (anL (anR (anL (anR (anR (anR (anL (anL hN))))))))
  | 1, _ => (anL (anR (anR (anL (anR (anR (anR (anL (anL hN)))))))))
  | 2, _ => (anR (anR (anR (anL (anR (anR (anR (anL (anL hN)))))))))
  | 3, _ => (anL (anL (anR (anR (anR (anR (anL (anL hN))))))))
  | 4, _ => (anL (anR (anL (anR (anR (anR (anR (anL (anL hN)))))))))
  | j + 5, h => absurd h (by simp only [List.length_cons, List.length_nil]; omega)) hA
theorem str_11 {args : Array Value} {s : State} {A : Nat → Prop} (hN : narrow_1.before args s = true) (hA : ∀ a : Nat, a < s.heap.size → ¬ A a) : ∃ q, StrP "FrostRing$Parser" 100 [112, 105, 112, 101] A args s q :=
  str_one (by decide) (anR (anR (anL (anR (anR (anR (anR (anL (anL hN))))))))) (anL (anL (anR (anR (anR (anR (anR (anL (anL hN))))))))) (anR (anL (anR (anR (anR (anR (anR (anL (anL hN))))))))) (anL (anR (anR (anR (anR (anR (anR (anL (anL hN))))))))) (fun j hj => match j, hj with
  | 0, _ => (anR (anR (anR (anR (anR (anR (anR (anL (anL hN)))))))))
  | 1, _ => (anL (anL (anL (anL (anL (anL (anR (anL hN))))))))
  | 2, _ => (anL (anR (anL (anL (anL (anL (anL (anR (anL hN)))))))))
  | 3, _ => (anR (anR (anL (anL (anL (anL (anL (anR (anL hN)))))))))
  | j + 4, h => absurd h (by simp only [List.length_cons, List.length_nil]; omega)) hA
theorem str_12 {args : Array Value} {s : State} {A : Nat → Prop} (hN : narrow_1.before args s = true) (hA : ∀ a : Nat, a < s.heap.size → ¬ A a) : ∃ q, StrP "FrostRing$Parser" 208 [97, 116] A args s q :=
  str_one (by decide) (anL (anR (anL (anL (anL (anL (anR (anL hN)))))))) (anL (anR (anR (anL (anL (anL (anL (anR (anL hN))))))))) (anR (anR (anR (anL (anL (anL (anL (anR (anL hN))))))))) (anL (anL (anR (anL (anL (anL (anR (anL hN)))))))) (fun j hj => match j, hj with
  | 0, _ => (anL (anR (anL (anR (anL (anL (anL (anR (anL hN)))))))))
  | 1, _ => (anR (anR (anL (anR (anL (anL (anL (anR (anL hN)))))))))
  | j + 2, h => absurd h (by simp only [List.length_cons, List.length_nil]; omega)) hA
theorem str_13 {args : Array Value} {s : State} {A : Nat → Prop} (hN : narrow_1.before args s = true) (hA : ∀ a : Nat, a < s.heap.size → ¬ A a) : ∃ q, StrP "FrostRing$Parser" 114 [99, 111, 108, 100] A args s q :=
  str_one (by decide) (anL (anL (anR (anR (anL (anL (anL (anR (anL hN))))))))) (anR (anL (anR (anR (anL (anL (anL (anR (anL hN))))))))) (anL (anR (anR (anR (anL (anL (anL (anR (anL hN))))))))) (anR (anR (anR (anR (anL (anL (anL (anR (anL hN))))))))) (fun j hj => match j, hj with
  | 0, _ => (anL (anL (anL (anR (anL (anL (anR (anL hN))))))))
  | 1, _ => (anL (anR (anL (anL (anR (anL (anL (anR (anL hN)))))))))
  | 2, _ => (anR (anR (anL (anL (anR (anL (anL (anR (anL hN)))))))))
  | 3, _ => (anL (anR (anL (anR (anL (anL (anR (anL hN))))))))
  | j + 4, h => absurd h (by simp only [List.length_cons, List.length_nil]; omega)) hA
theorem str_14 {args : Array Value} {s : State} {A : Nat → Prop} (hN : narrow_1.before args s = true) (hA : ∀ a : Nat, a < s.heap.size → ¬ A a) : ∃ q, StrP "FrostRing$Parser" 119 [104, 111, 117, 115, 101] A args s q :=
  str_one (by decide) (anL (anR (anR (anL (anR (anL (anL (anR (anL hN))))))))) (anR (anR (anR (anL (anR (anL (anL (anR (anL hN))))))))) (anL (anL (anR (anR (anL (anL (anR (anL hN)))))))) (anL (anR (anL (anR (anR (anL (anL (anR (anL hN))))))))) (fun j hj => match j, hj with
  | 0, _ => (anR (anR (anL (anR (anR (anL (anL (anR (anL hN)))))))))
  | 1, _ => (anL (anL (anR (anR (anR (anL (anL (anR (anL hN)))))))))
  | 2, _ => (anR (anL (anR (anR (anR (anL (anL (anR (anL hN)))))))))
  | 3, _ => (anL (anR (anR (anR (anR (anL (anL (anR (anL hN)))))))))
  | 4, _ => (anR (anR (anR (anR (anR (anL (anL (anR (anL hN)))))))))
  | j + 5, h => absurd h (by simp only [List.length_cons, List.length_nil]; omega)) hA
theorem str_15 {args : Array Value} {s : State} {A : Nat → Prop} (hN : narrow_1.before args s = true) (hA : ∀ a : Nat, a < s.heap.size → ¬ A a) : ∃ q, StrP "FrostRing$Parser" 217 [108, 105, 109, 105, 116] A args s q :=
  str_one (by decide) (anL (anL (anL (anL (anR (anL (anR (anL hN)))))))) (anL (anR (anL (anL (anL (anR (anL (anR (anL hN))))))))) (anR (anR (anL (anL (anL (anR (anL (anR (anL hN))))))))) (anL (anR (anL (anL (anR (anL (anR (anL hN)))))))) (fun j hj => match j, hj with
  | 0, _ => (anL (anR (anR (anL (anL (anR (anL (anR (anL hN)))))))))
  | 1, _ => (anR (anR (anR (anL (anL (anR (anL (anR (anL hN)))))))))
  | 2, _ => (anL (anL (anR (anL (anR (anL (anR (anL hN))))))))
  | 3, _ => (anL (anR (anL (anR (anL (anR (anL (anR (anL hN)))))))))
  | 4, _ => (anR (anR (anL (anR (anL (anR (anL (anR (anL hN)))))))))
  | j + 5, h => absurd h (by simp only [List.length_cons, List.length_nil]; omega)) hA
theorem str_16 {args : Array Value} {s : State} {A : Nat → Prop} (hN : narrow_1.before args s = true) (hA : ∀ a : Nat, a < s.heap.size → ¬ A a) : ∃ q, StrP "FrostRing$Parser" 131 [100, 105, 103] A args s q :=
  str_one (by decide) (anL (anL (anR (anR (anL (anR (anL (anR (anL hN))))))))) (anR (anL (anR (anR (anL (anR (anL (anR (anL hN))))))))) (anL (anR (anR (anR (anL (anR (anL (anR (anL hN))))))))) (anR (anR (anR (anR (anL (anR (anL (anR (anL hN))))))))) (fun j hj => match j, hj with
  | 0, _ => (anL (anL (anL (anR (anR (anL (anR (anL hN))))))))
  | 1, _ => (anL (anR (anL (anL (anR (anR (anL (anR (anL hN)))))))))
  | 2, _ => (anR (anR (anL (anL (anR (anR (anL (anR (anL hN)))))))))
  | j + 3, h => absurd h (by simp only [List.length_cons, List.length_nil]; omega)) hA
theorem str_17 {args : Array Value} {s : State} {A : Nat → Prop} (hN : narrow_1.before args s = true) (hA : ∀ a : Nat, a < s.heap.size → ¬ A a) : ∃ q, StrP "FrostRing$Parser" 221 [105, 102] A args s q :=
  str_one (by decide) (anL (anR (anL (anR (anR (anL (anR (anL hN)))))))) (anL (anR (anR (anL (anR (anR (anL (anR (anL hN))))))))) (anR (anR (anR (anL (anR (anR (anL (anR (anL hN))))))))) (anL (anL (anR (anR (anR (anL (anR (anL hN)))))))) (fun j hj => match j, hj with
  | 0, _ => (anL (anR (anL (anR (anR (anR (anL (anR (anL hN)))))))))
  | 1, _ => (anR (anR (anL (anR (anR (anR (anL (anR (anL hN)))))))))
  | j + 2, h => absurd h (by simp only [List.length_cons, List.length_nil]; omega)) hA
theorem str_18 {args : Array Value} {s : State} {A : Nat → Prop} (hN : narrow_1.before args s = true) (hA : ∀ a : Nat, a < s.heap.size → ¬ A a) : ∃ q, StrP "FrostRing$Parser" 241 [115, 104, 117, 116] A args s q :=
  str_one (by decide) (anL (anL (anR (anR (anR (anR (anL (anR (anL hN))))))))) (anR (anL (anR (anR (anR (anR (anL (anR (anL hN))))))))) (anL (anR (anR (anR (anR (anR (anL (anR (anL hN))))))))) (anR (anR (anR (anR (anR (anR (anL (anR (anL hN))))))))) (fun j hj => match j, hj with
  | 0, _ => (anL (anL (anL (anL (anL (anR (anR (anL hN))))))))
  | 1, _ => (anL (anR (anL (anL (anL (anL (anR (anR (anL hN)))))))))
  | 2, _ => (anR (anR (anL (anL (anL (anL (anR (anR (anL hN)))))))))
  | 3, _ => (anL (anR (anL (anL (anL (anR (anR (anL hN))))))))
  | j + 4, h => absurd h (by simp only [List.length_cons, List.length_nil]; omega)) hA
theorem str_19 {args : Array Value} {s : State} {A : Nat → Prop} (hN : narrow_1.before args s = true) (hA : ∀ a : Nat, a < s.heap.size → ¬ A a) : ∃ q, StrP "FrostRing$Parser" 243 [116, 104, 105, 99, 107] A args s q :=
  str_one (by decide) (anL (anR (anR (anL (anL (anL (anR (anR (anL hN))))))))) (anR (anR (anR (anL (anL (anL (anR (anR (anL hN))))))))) (anL (anL (anR (anL (anL (anR (anR (anL hN)))))))) (anL (anR (anL (anR (anL (anL (anR (anR (anL hN))))))))) (fun j hj => match j, hj with
  | 0, _ => (anR (anR (anL (anR (anL (anL (anR (anR (anL hN)))))))))
  | 1, _ => (anL (anL (anR (anR (anL (anL (anR (anR (anL hN)))))))))
  | 2, _ => (anR (anL (anR (anR (anL (anL (anR (anR (anL hN)))))))))
  | 3, _ => (anL (anR (anR (anR (anL (anL (anR (anR (anL hN)))))))))
  | 4, _ => (anR (anR (anR (anR (anL (anL (anR (anR (anL hN)))))))))
  | j + 5, h => absurd h (by simp only [List.length_cons, List.length_nil]; omega)) hA
theorem str_20 {args : Array Value} {s : State} {A : Nat → Prop} (hN : narrow_1.before args s = true) (hA : ∀ a : Nat, a < s.heap.size → ¬ A a) : ∃ q, StrP "FrostRing$Parser" 245 [103, 97, 112, 115] A args s q :=
  str_one (by decide) (anL (anL (anL (anR (anL (anR (anR (anL hN)))))))) (anL (anR (anL (anL (anR (anL (anR (anR (anL hN))))))))) (anR (anR (anL (anL (anR (anL (anR (anR (anL hN))))))))) (anL (anR (anL (anR (anL (anR (anR (anL hN)))))))) (fun j hj => match j, hj with
  | 0, _ => (anL (anR (anR (anL (anR (anL (anR (anR (anL hN)))))))))
  | 1, _ => (anR (anR (anR (anL (anR (anL (anR (anR (anL hN)))))))))
  | 2, _ => (anL (anL (anR (anR (anL (anR (anR (anL hN))))))))
  | 3, _ => (anL (anR (anL (anR (anR (anL (anR (anR (anL hN)))))))))
  | j + 4, h => absurd h (by simp only [List.length_cons, List.length_nil]; omega)) hA
theorem str_21 {args : Array Value} {s : State} {A : Nat → Prop} (hN : narrow_1.before args s = true) (hA : ∀ a : Nat, a < s.heap.size → ¬ A a) : ∃ q, StrP "FrostRing$Parser" 247 [116, 105, 99, 107] A args s q :=
  str_one (by decide) (anR (anR (anL (anR (anR (anL (anR (anR (anL hN))))))))) (anL (anL (anR (anR (anR (anL (anR (anR (anL hN))))))))) (anR (anL (anR (anR (anR (anL (anR (anR (anL hN))))))))) (anL (anR (anR (anR (anR (anL (anR (anR (anL hN))))))))) (fun j hj => match j, hj with
  | 0, _ => (anR (anR (anR (anR (anR (anL (anR (anR (anL hN)))))))))
  | 1, _ => (anL (anL (anL (anL (anR (anR (anR (anL hN))))))))
  | 2, _ => (anL (anR (anL (anL (anL (anR (anR (anR (anL hN)))))))))
  | 3, _ => (anR (anR (anL (anL (anL (anR (anR (anR (anL hN)))))))))
  | j + 4, h => absurd h (by simp only [List.length_cons, List.length_nil]; omega)) hA
theorem str_22 {args : Array Value} {s : State} {A : Nat → Prop} (hN : narrow_1.before args s = true) (hA : ∀ a : Nat, a < s.heap.size → ¬ A a) : ∃ q, StrP "FrostRing$Parser" 249 [108, 105, 102, 116] A args s q :=
  str_one (by decide) (anL (anR (anL (anL (anR (anR (anR (anL hN)))))))) (anL (anR (anR (anL (anL (anR (anR (anR (anL hN))))))))) (anR (anR (anR (anL (anL (anR (anR (anR (anL hN))))))))) (anL (anL (anR (anL (anR (anR (anR (anL hN)))))))) (fun j hj => match j, hj with
  | 0, _ => (anL (anR (anL (anR (anL (anR (anR (anR (anL hN)))))))))
  | 1, _ => (anR (anR (anL (anR (anL (anR (anR (anR (anL hN)))))))))
  | 2, _ => (anL (anL (anR (anR (anL (anR (anR (anR (anL hN)))))))))
  | 3, _ => (anR (anL (anR (anR (anL (anR (anR (anR (anL hN)))))))))
  | j + 4, h => absurd h (by simp only [List.length_cons, List.length_nil]; omega)) hA
theorem str_23 {args : Array Value} {s : State} {A : Nat → Prop} (hN : narrow_1.before args s = true) (hA : ∀ a : Nat, a < s.heap.size → ¬ A a) : ∃ q, StrP "FrostRing$Parser" 236 [97, 110, 100] A args s q :=
  str_one (by decide) (anL (anR (anR (anR (anL (anR (anR (anR (anL hN))))))))) (anR (anR (anR (anR (anL (anR (anR (anR (anL hN))))))))) (anL (anL (anL (anR (anR (anR (anR (anL hN)))))))) (anL (anR (anL (anL (anR (anR (anR (anR (anL hN))))))))) (fun j hj => match j, hj with
  | 0, _ => (anR (anR (anL (anL (anR (anR (anR (anR (anL hN)))))))))
  | 1, _ => (anL (anR (anL (anR (anR (anR (anR (anL hN))))))))
  | 2, _ => (anL (anR (anR (anL (anR (anR (anR (anR (anL hN)))))))))
  | j + 3, h => absurd h (by simp only [List.length_cons, List.length_nil]; omega)) hA
theorem str_24 {args : Array Value} {s : State} {A : Nat → Prop} (hN : narrow_1.before args s = true) (hA : ∀ a : Nat, a < s.heap.size → ¬ A a) : ∃ q, StrP "FrostRingModel" 234 [103, 114, 111, 117, 110, 100] A args s q :=
  str_one (by decide) (anR (anR (anR (anL (anR (anR (anR (anR (anL hN))))))))) (anL (anL (anR (anR (anR (anR (anR (anL hN)))))))) (anL (anR (anL (anR (anR (anR (anR (anR (anL hN))))))))) (anR (anR (anL (anR (anR (anR (anR (anR (anL hN))))))))) (fun j hj => match j, hj with
  | 0, _ => (anL (anL (anR (anR (anR (anR (anR (anR (anL hN)))))))))
  | 1, _ => (anR (anL (anR (anR (anR (anR (anR (anR (anL hN)))))))))
  | 2, _ => (anL (anR (anR (anR (anR (anR (anR (anR (anL hN)))))))))
  | 3, _ => (anR (anR (anR (anR (anR (anR (anR (anR (anL hN)))))))))
  | 4, _ => (anL (anL (anL (anL (anL (anL (anL (anR hN))))))))
  | 5, _ => (anL (anR (anL (anL (anL (anL (anL (anL (anR hN)))))))))
  | j + 6, h => absurd h (by simp only [List.length_cons, List.length_nil]; omega)) hA
theorem str_25 {args : Array Value} {s : State} {A : Nat → Prop} (hN : narrow_1.before args s = true) (hA : ∀ a : Nat, a < s.heap.size → ¬ A a) : ∃ q, StrP "FrostRingModel" 259 [108, 97, 121] A args s q :=
  str_one (by decide) (anL (anR (anL (anL (anL (anL (anL (anR hN)))))))) (anL (anR (anR (anL (anL (anL (anL (anL (anR hN))))))))) (anR (anR (anR (anL (anL (anL (anL (anL (anR hN))))))))) (anL (anL (anR (anL (anL (anL (anL (anR hN)))))))) (fun j hj => match j, hj with
  | 0, _ => (anL (anR (anL (anR (anL (anL (anL (anL (anR hN)))))))))
  | 1, _ => (anR (anR (anL (anR (anL (anL (anL (anL (anR hN)))))))))
  | 2, _ => (anL (anL (anR (anR (anL (anL (anL (anL (anR hN)))))))))
  | j + 3, h => absurd h (by simp only [List.length_cons, List.length_nil]; omega)) hA
theorem str_26 {args : Array Value} {s : State} {A : Nat → Prop} (hN : narrow_1.before args s = true) (hA : ∀ a : Nat, a < s.heap.size → ¬ A a) : ∃ q, StrP "FrostRingModel" 261 [115, 116, 114, 101, 97, 109] A args s q :=
  str_one (by decide) (anL (anR (anR (anR (anL (anL (anL (anL (anR hN))))))))) (anR (anR (anR (anR (anL (anL (anL (anL (anR hN))))))))) (anL (anL (anL (anR (anL (anL (anL (anR hN)))))))) (anL (anR (anL (anL (anR (anL (anL (anL (anR hN))))))))) (fun j hj => match j, hj with
  | 0, _ => (anR (anR (anL (anL (anR (anL (anL (anL (anR hN)))))))))
  | 1, _ => (anL (anR (anL (anR (anL (anL (anL (anR hN))))))))
  | 2, _ => (anL (anR (anR (anL (anR (anL (anL (anL (anR hN)))))))))
  | 3, _ => (anR (anR (anR (anL (anR (anL (anL (anL (anR hN)))))))))
  | 4, _ => (anL (anL (anR (anR (anL (anL (anL (anR hN))))))))
  | 5, _ => (anL (anR (anL (anR (anR (anL (anL (anL (anR hN)))))))))
  | j + 6, h => absurd h (by simp only [List.length_cons, List.length_nil]; omega)) hA
theorem str_27 {args : Array Value} {s : State} {A : Nat → Prop} (hN : narrow_1.before args s = true) (hA : ∀ a : Nat, a < s.heap.size → ¬ A a) : ∃ q, StrP "FrostRingModel" 263 [102, 97, 114] A args s q :=
  str_one (by decide) (anL (anL (anR (anR (anR (anL (anL (anL (anR hN))))))))) (anR (anL (anR (anR (anR (anL (anL (anL (anR hN))))))))) (anL (anR (anR (anR (anR (anL (anL (anL (anR hN))))))))) (anR (anR (anR (anR (anR (anL (anL (anL (anR hN))))))))) (fun j hj => match j, hj with
  | 0, _ => (anL (anL (anL (anL (anR (anL (anL (anR hN))))))))
  | 1, _ => (anL (anR (anL (anL (anL (anR (anL (anL (anR hN)))))))))
  | 2, _ => (anR (anR (anL (anL (anL (anR (anL (anL (anR hN)))))))))
  | j + 3, h => absurd h (by simp only [List.length_cons, List.length_nil]; omega)) hA
theorem str_28 {args : Array Value} {s : State} {A : Nat → Prop} (hN : narrow_1.before args s = true) (hA : ∀ a : Nat, a < s.heap.size → ¬ A a) : ∃ q, StrP "FrostRingModel" 264 [115, 104, 97, 102, 116] A args s q :=
  str_one (by decide) (anL (anR (anR (anL (anL (anR (anL (anL (anR hN))))))))) (anR (anR (anR (anL (anL (anR (anL (anL (anR hN))))))))) (anL (anL (anR (anL (anR (anL (anL (anR hN)))))))) (anL (anR (anL (anR (anL (anR (anL (anL (anR hN))))))))) (fun j hj => match j, hj with
  | 0, _ => (anR (anR (anL (anR (anL (anR (anL (anL (anR hN)))))))))
  | 1, _ => (anL (anL (anR (anR (anL (anR (anL (anL (anR hN)))))))))
  | 2, _ => (anR (anL (anR (anR (anL (anR (anL (anL (anR hN)))))))))
  | 3, _ => (anL (anR (anR (anR (anL (anR (anL (anL (anR hN)))))))))
  | 4, _ => (anR (anR (anR (anR (anL (anR (anL (anL (anR hN)))))))))
  | j + 5, h => absurd h (by simp only [List.length_cons, List.length_nil]; omega)) hA
theorem str_29 {args : Array Value} {s : State} {A : Nat → Prop} (hN : narrow_1.before args s = true) (hA : ∀ a : Nat, a < s.heap.size → ¬ A a) : ∃ q, StrP "FrostRingModel" 266 [112, 105, 112, 101] A args s q :=
  str_one (by decide) (anL (anR (anL (anL (anR (anR (anL (anL (anR hN))))))))) (anR (anR (anL (anL (anR (anR (anL (anL (anR hN))))))))) (anL (anR (anL (anR (anR (anL (anL (anR hN)))))))) (anL (anR (anR (anL (anR (anR (anL (anL (anR hN))))))))) (fun j hj => match j, hj with
  | 0, _ => (anR (anR (anR (anL (anR (anR (anL (anL (anR hN)))))))))
  | 1, _ => (anL (anL (anR (anR (anR (anL (anL (anR hN))))))))
  | 2, _ => (anL (anR (anL (anR (anR (anR (anL (anL (anR hN)))))))))
  | 3, _ => (anR (anR (anL (anR (anR (anR (anL (anL (anR hN)))))))))
  | j + 4, h => absurd h (by simp only [List.length_cons, List.length_nil]; omega)) hA
theorem str_30 {args : Array Value} {s : State} {A : Nat → Prop} (hN : narrow_1.before args s = true) (hA : ∀ a : Nat, a < s.heap.size → ¬ A a) : ∃ q, StrP "FrostRingModel" 268 [99, 111, 108, 100] A args s q :=
  str_one (by decide) (anR (anL (anR (anR (anR (anR (anL (anL (anR hN))))))))) (anL (anR (anR (anR (anR (anR (anL (anL (anR hN))))))))) (anR (anR (anR (anR (anR (anR (anL (anL (anR hN))))))))) (anL (anL (anL (anL (anL (anR (anL (anR hN)))))))) (fun j hj => match j, hj with
  | 0, _ => (anL (anR (anL (anL (anL (anL (anR (anL (anR hN)))))))))
  | 1, _ => (anR (anR (anL (anL (anL (anL (anR (anL (anR hN)))))))))
  | 2, _ => (anL (anR (anL (anL (anL (anR (anL (anR hN))))))))
  | 3, _ => (anL (anR (anR (anL (anL (anL (anR (anL (anR hN)))))))))
  | j + 4, h => absurd h (by simp only [List.length_cons, List.length_nil]; omega)) hA
theorem str_31 {args : Array Value} {s : State} {A : Nat → Prop} (hN : narrow_1.before args s = true) (hA : ∀ a : Nat, a < s.heap.size → ¬ A a) : ∃ q, StrP "FrostRingModel" 270 [104, 111, 117, 115, 101] A args s q :=
  str_one (by decide) (anL (anL (anR (anL (anL (anR (anL (anR hN)))))))) (anL (anR (anL (anR (anL (anL (anR (anL (anR hN))))))))) (anR (anR (anL (anR (anL (anL (anR (anL (anR hN))))))))) (anL (anL (anR (anR (anL (anL (anR (anL (anR hN))))))))) (fun j hj => match j, hj with
  | 0, _ => (anR (anL (anR (anR (anL (anL (anR (anL (anR hN)))))))))
  | 1, _ => (anL (anR (anR (anR (anL (anL (anR (anL (anR hN)))))))))
  | 2, _ => (anR (anR (anR (anR (anL (anL (anR (anL (anR hN)))))))))
  | 3, _ => (anL (anL (anL (anR (anL (anR (anL (anR hN))))))))
  | 4, _ => (anL (anR (anL (anL (anR (anL (anR (anL (anR hN)))))))))
  | j + 5, h => absurd h (by simp only [List.length_cons, List.length_nil]; omega)) hA
theorem str_32 {args : Array Value} {s : State} {A : Nat → Prop} (hN : narrow_1.before args s = true) (hA : ∀ a : Nat, a < s.heap.size → ¬ A a) : ∃ q, StrP "FrostRingModel" 272 [100, 105, 103] A args s q :=
  str_one (by decide) (anL (anR (anL (anR (anL (anR (anL (anR hN)))))))) (anL (anR (anR (anL (anR (anL (anR (anL (anR hN))))))))) (anR (anR (anR (anL (anR (anL (anR (anL (anR hN))))))))) (anL (anL (anR (anR (anL (anR (anL (anR hN)))))))) (fun j hj => match j, hj with
  | 0, _ => (anL (anR (anL (anR (anR (anL (anR (anL (anR hN)))))))))
  | 1, _ => (anR (anR (anL (anR (anR (anL (anR (anL (anR hN)))))))))
  | 2, _ => (anL (anL (anR (anR (anR (anL (anR (anL (anR hN)))))))))
  | j + 3, h => absurd h (by simp only [List.length_cons, List.length_nil]; omega)) hA
theorem str_33 {args : Array Value} {s : State} {A : Nat → Prop} (hN : narrow_1.before args s = true) (hA : ∀ a : Nat, a < s.heap.size → ¬ A a) : ∃ q, StrP "FrostRingModel" 200 [108, 101, 97, 100] A args s q :=
  str_one (by decide) (anL (anR (anR (anR (anR (anL (anR (anL (anR hN))))))))) (anR (anR (anR (anR (anR (anL (anR (anL (anR hN))))))))) (anL (anL (anL (anL (anR (anR (anL (anR hN)))))))) (anL (anR (anL (anL (anL (anR (anR (anL (anR hN))))))))) (fun j hj => match j, hj with
  | 0, _ => (anR (anR (anL (anL (anL (anR (anR (anL (anR hN)))))))))
  | 1, _ => (anL (anR (anL (anL (anR (anR (anL (anR hN))))))))
  | 2, _ => (anL (anR (anR (anL (anL (anR (anR (anL (anR hN)))))))))
  | 3, _ => (anR (anR (anR (anL (anL (anR (anR (anL (anR hN)))))))))
  | j + 4, h => absurd h (by simp only [List.length_cons, List.length_nil]; omega)) hA
theorem str_34 {args : Array Value} {s : State} {A : Nat → Prop} (hN : narrow_1.before args s = true) (hA : ∀ a : Nat, a < s.heap.size → ¬ A a) : ∃ q, StrP "FrostRingModel" 206 [105, 99, 101] A args s q :=
  str_one (by decide) (anL (anR (anL (anR (anL (anR (anR (anL (anR hN))))))))) (anR (anR (anL (anR (anL (anR (anR (anL (anR hN))))))))) (anL (anL (anR (anR (anL (anR (anR (anL (anR hN))))))))) (anR (anL (anR (anR (anL (anR (anR (anL (anR hN))))))))) (fun j hj => match j, hj with
  | 0, _ => (anL (anR (anR (anR (anL (anR (anR (anL (anR hN)))))))))
  | 1, _ => (anR (anR (anR (anR (anL (anR (anR (anL (anR hN)))))))))
  | 2, _ => (anL (anL (anL (anR (anR (anR (anL (anR hN))))))))
  | j + 3, h => absurd h (by simp only [List.length_cons, List.length_nil]; omega)) hA
theorem str_35 {args : Array Value} {s : State} {A : Nat → Prop} (hN : narrow_1.before args s = true) (hA : ∀ a : Nat, a < s.heap.size → ¬ A a) : ∃ q, StrP "FrostRingModel" 208 [108, 97, 116, 101, 110, 116] A args s q :=
  str_one (by decide) (anR (anR (anL (anL (anR (anR (anR (anL (anR hN))))))))) (anL (anR (anL (anR (anR (anR (anL (anR hN)))))))) (anL (anR (anR (anL (anR (anR (anR (anL (anR hN))))))))) (anR (anR (anR (anL (anR (anR (anR (anL (anR hN))))))))) (fun j hj => match j, hj with
  | 0, _ => (anL (anL (anR (anR (anR (anR (anL (anR hN))))))))
  | 1, _ => (anL (anR (anL (anR (anR (anR (anR (anL (anR hN)))))))))
  | 2, _ => (anR (anR (anL (anR (anR (anR (anR (anL (anR hN)))))))))
  | 3, _ => (anL (anL (anR (anR (anR (anR (anR (anL (anR hN)))))))))
  | 4, _ => (anR (anL (anR (anR (anR (anR (anR (anL (anR hN)))))))))
  | 5, _ => (anL (anR (anR (anR (anR (anR (anR (anL (anR hN)))))))))
  | j + 6, h => absurd h (by simp only [List.length_cons, List.length_nil]; omega)) hA
theorem str_36 {args : Array Value} {s : State} {A : Nat → Prop} (hN : narrow_1.before args s = true) (hA : ∀ a : Nat, a < s.heap.size → ¬ A a) : ∃ q, StrP "FrostRingModel" 210 [109, 97, 114, 107] A args s q :=
  str_one (by decide) (anL (anL (anL (anL (anL (anL (anR (anR hN)))))))) (anL (anR (anL (anL (anL (anL (anL (anR (anR hN))))))))) (anR (anR (anL (anL (anL (anL (anL (anR (anR hN))))))))) (anL (anR (anL (anL (anL (anL (anR (anR hN)))))))) (fun j hj => match j, hj with
  | 0, _ => (anL (anR (anR (anL (anL (anL (anL (anR (anR hN)))))))))
  | 1, _ => (anR (anR (anR (anL (anL (anL (anL (anR (anR hN)))))))))
  | 2, _ => (anL (anL (anR (anL (anL (anL (anR (anR hN))))))))
  | 3, _ => (anL (anR (anL (anR (anL (anL (anL (anR (anR hN)))))))))
  | j + 4, h => absurd h (by simp only [List.length_cons, List.length_nil]; omega)) hA
theorem str_37 {args : Array Value} {s : State} {A : Nat → Prop} (hN : narrow_1.before args s = true) (hA : ∀ a : Nat, a < s.heap.size → ¬ A a) : ∃ q, StrP "FrostRingModel" 222 [116, 111] A args s q :=
  str_one (by decide) (anL (anL (anR (anR (anL (anL (anL (anR (anR hN))))))))) (anR (anL (anR (anR (anL (anL (anL (anR (anR hN))))))))) (anL (anR (anR (anR (anL (anL (anL (anR (anR hN))))))))) (anR (anR (anR (anR (anL (anL (anL (anR (anR hN))))))))) (fun j hj => match j, hj with
  | 0, _ => (anL (anL (anL (anR (anL (anL (anR (anR hN))))))))
  | 1, _ => (anL (anR (anL (anL (anR (anL (anL (anR (anR hN)))))))))
  | j + 2, h => absurd h (by simp only [List.length_cons, List.length_nil]; omega)) hA
theorem str_38 {args : Array Value} {s : State} {A : Nat → Prop} (hN : narrow_1.before args s = true) (hA : ∀ a : Nat, a < s.heap.size → ¬ A a) : ∃ q, StrP "FrostRingModel" 236 [115, 112, 101, 101, 100] A args s q :=
  str_one (by decide) (anL (anR (anL (anR (anL (anL (anR (anR hN)))))))) (anL (anR (anR (anL (anR (anL (anL (anR (anR hN))))))))) (anR (anR (anR (anL (anR (anL (anL (anR (anR hN))))))))) (anL (anL (anR (anR (anL (anL (anR (anR hN)))))))) (fun j hj => match j, hj with
  | 0, _ => (anL (anR (anL (anR (anR (anL (anL (anR (anR hN)))))))))
  | 1, _ => (anR (anR (anL (anR (anR (anL (anL (anR (anR hN)))))))))
  | 2, _ => (anL (anL (anR (anR (anR (anL (anL (anR (anR hN)))))))))
  | 3, _ => (anR (anL (anR (anR (anR (anL (anL (anR (anR hN)))))))))
  | 4, _ => (anL (anR (anR (anR (anR (anL (anL (anR (anR hN)))))))))
  | j + 5, h => absurd h (by simp only [List.length_cons, List.length_nil]; omega)) hA
theorem str_39 {args : Array Value} {s : State} {A : Nat → Prop} (hN : narrow_1.before args s = true) (hA : ∀ a : Nat, a < s.heap.size → ¬ A a) : ∃ q, StrP "FrostRingModel" 238 [97, 116] A args s q :=
  str_one (by decide) (anL (anL (anL (anL (anR (anL (anR (anR hN)))))))) (anL (anR (anL (anL (anL (anR (anL (anR (anR hN))))))))) (anR (anR (anL (anL (anL (anR (anL (anR (anR hN))))))))) (anL (anR (anL (anL (anR (anL (anR (anR hN)))))))) (fun j hj => match j, hj with
  | 0, _ => (anL (anR (anR (anL (anL (anR (anL (anR (anR hN)))))))))
  | 1, _ => (anR (anR (anR (anL (anL (anR (anL (anR (anR hN)))))))))
  | j + 2, h => absurd h (by simp only [List.length_cons, List.length_nil]; omega)) hA
theorem str_40 {args : Array Value} {s : State} {A : Nat → Prop} (hN : narrow_1.before args s = true) (hA : ∀ a : Nat, a < s.heap.size → ¬ A a) : ∃ q, StrP "FrostRingModel" 252 [105, 102] A args s q :=
  str_one (by decide) (anL (anR (anL (anR (anL (anR (anL (anR (anR hN))))))))) (anR (anR (anL (anR (anL (anR (anL (anR (anR hN))))))))) (anL (anL (anR (anR (anL (anR (anL (anR (anR hN))))))))) (anR (anL (anR (anR (anL (anR (anL (anR (anR hN))))))))) (fun j hj => match j, hj with
  | 0, _ => (anL (anR (anR (anR (anL (anR (anL (anR (anR hN)))))))))
  | 1, _ => (anR (anR (anR (anR (anL (anR (anL (anR (anR hN)))))))))
  | j + 2, h => absurd h (by simp only [List.length_cons, List.length_nil]; omega)) hA
theorem str_41 {args : Array Value} {s : State} {A : Nat → Prop} (hN : narrow_1.before args s = true) (hA : ∀ a : Nat, a < s.heap.size → ¬ A a) : ∃ q, StrP "FrostRingModel" 239 [115, 104, 117, 116] A args s q :=
  str_one (by decide) (anL (anR (anL (anL (anR (anR (anL (anR (anR hN))))))))) (anR (anR (anL (anL (anR (anR (anL (anR (anR hN))))))))) (anL (anR (anL (anR (anR (anL (anR (anR hN)))))))) (anL (anR (anR (anL (anR (anR (anL (anR (anR hN))))))))) (fun j hj => match j, hj with
  | 0, _ => (anR (anR (anR (anL (anR (anR (anL (anR (anR hN)))))))))
  | 1, _ => (anL (anL (anR (anR (anR (anL (anR (anR hN))))))))
  | 2, _ => (anL (anR (anL (anR (anR (anR (anL (anR (anR hN)))))))))
  | 3, _ => (anR (anR (anL (anR (anR (anR (anL (anR (anR hN)))))))))
  | j + 4, h => absurd h (by simp only [List.length_cons, List.length_nil]; omega)) hA
theorem str_42 {args : Array Value} {s : State} {A : Nat → Prop} (hN : narrow_1.before args s = true) (hA : ∀ a : Nat, a < s.heap.size → ¬ A a) : ∃ q, StrP "FrostRingModel" 241 [116, 104, 105, 99, 107] A args s q :=
  str_one (by decide) (anR (anL (anR (anR (anR (anR (anL (anR (anR hN))))))))) (anL (anR (anR (anR (anR (anR (anL (anR (anR hN))))))))) (anR (anR (anR (anR (anR (anR (anL (anR (anR hN))))))))) (anL (anL (anL (anL (anL (anR (anR (anR hN)))))))) (fun j hj => match j, hj with
  | 0, _ => (anL (anR (anL (anL (anL (anL (anR (anR (anR hN)))))))))
  | 1, _ => (anR (anR (anL (anL (anL (anL (anR (anR (anR hN)))))))))
  | 2, _ => (anL (anR (anL (anL (anL (anR (anR (anR hN))))))))
  | 3, _ => (anL (anR (anR (anL (anL (anL (anR (anR (anR hN)))))))))
  | 4, _ => (anR (anR (anR (anL (anL (anL (anR (anR (anR hN)))))))))
  | j + 5, h => absurd h (by simp only [List.length_cons, List.length_nil]; omega)) hA
theorem str_43 {args : Array Value} {s : State} {A : Nat → Prop} (hN : narrow_1.before args s = true) (hA : ∀ a : Nat, a < s.heap.size → ¬ A a) : ∃ q, StrP "FrostRingModel" 243 [103, 97, 112, 115] A args s q :=
  str_one (by decide) (anL (anR (anL (anR (anL (anL (anR (anR (anR hN))))))))) (anR (anR (anL (anR (anL (anL (anR (anR (anR hN))))))))) (anL (anL (anR (anR (anL (anL (anR (anR (anR hN))))))))) (anR (anL (anR (anR (anL (anL (anR (anR (anR hN))))))))) (fun j hj => match j, hj with
  | 0, _ => (anL (anR (anR (anR (anL (anL (anR (anR (anR hN)))))))))
  | 1, _ => (anR (anR (anR (anR (anL (anL (anR (anR (anR hN)))))))))
  | 2, _ => (anL (anL (anL (anR (anL (anR (anR (anR hN))))))))
  | 3, _ => (anL (anR (anL (anL (anR (anL (anR (anR (anR hN)))))))))
  | j + 4, h => absurd h (by simp only [List.length_cons, List.length_nil]; omega)) hA
theorem str_44 {args : Array Value} {s : State} {A : Nat → Prop} (hN : narrow_1.before args s = true) (hA : ∀ a : Nat, a < s.heap.size → ¬ A a) : ∃ q, StrP "FrostRingModel" 245 [116, 105, 99, 107] A args s q :=
  str_one (by decide) (anL (anR (anL (anR (anL (anR (anR (anR hN)))))))) (anL (anR (anR (anL (anR (anL (anR (anR (anR hN))))))))) (anR (anR (anR (anL (anR (anL (anR (anR (anR hN))))))))) (anL (anL (anR (anR (anL (anR (anR (anR hN)))))))) (fun j hj => match j, hj with
  | 0, _ => (anL (anR (anL (anR (anR (anL (anR (anR (anR hN)))))))))
  | 1, _ => (anR (anR (anL (anR (anR (anL (anR (anR (anR hN)))))))))
  | 2, _ => (anL (anL (anR (anR (anR (anL (anR (anR (anR hN)))))))))
  | 3, _ => (anR (anL (anR (anR (anR (anL (anR (anR (anR hN)))))))))
  | j + 4, h => absurd h (by simp only [List.length_cons, List.length_nil]; omega)) hA
theorem str_45 {args : Array Value} {s : State} {A : Nat → Prop} (hN : narrow_1.before args s = true) (hA : ∀ a : Nat, a < s.heap.size → ¬ A a) : ∃ q, StrP "FrostRingModel" 247 [108, 105, 102, 116] A args s q :=
  str_one (by decide) (anR (anR (anR (anR (anR (anL (anR (anR (anR hN))))))))) (anL (anL (anL (anL (anR (anR (anR (anR hN)))))))) (anL (anR (anL (anL (anL (anR (anR (anR (anR hN))))))))) (anR (anR (anL (anL (anL (anR (anR (anR (anR hN))))))))) (fun j hj => match j, hj with
  | 0, _ => (anL (anR (anL (anL (anR (anR (anR (anR hN))))))))
  | 1, _ => (anL (anR (anR (anL (anL (anR (anR (anR (anR hN)))))))))
  | 2, _ => (anR (anR (anR (anL (anL (anR (anR (anR (anR hN)))))))))
  | 3, _ => (anL (anL (anR (anL (anR (anR (anR (anR hN))))))))
  | j + 4, h => absurd h (by simp only [List.length_cons, List.length_nil]; omega)) hA
theorem str_46 {args : Array Value} {s : State} {A : Nat → Prop} (hN : narrow_1.before args s = true) (hA : ∀ a : Nat, a < s.heap.size → ¬ A a) : ∃ q, StrP "FrostRingModel" 257 [97, 110, 100] A args s q :=
  str_one (by decide) (anR (anR (anL (anR (anL (anR (anR (anR (anR hN))))))))) (anL (anL (anR (anR (anL (anR (anR (anR (anR hN))))))))) (anR (anL (anR (anR (anL (anR (anR (anR (anR hN))))))))) (anL (anR (anR (anR (anL (anR (anR (anR (anR hN))))))))) (fun j hj => match j, hj with
  | 0, _ => (anR (anR (anR (anR (anL (anR (anR (anR (anR hN)))))))))
  | 1, _ => (anL (anL (anL (anR (anR (anR (anR (anR hN))))))))
  | 2, _ => (anL (anR (anL (anL (anR (anR (anR (anR (anR hN)))))))))
  | j + 3, h => absurd h (by simp only [List.length_cons, List.length_nil]; omega)) hA
theorem str_47 {args : Array Value} {s : State} {A : Nat → Prop} (hN : narrow_1.before args s = true) (hA : ∀ a : Nat, a < s.heap.size → ¬ A a) : ∃ q, StrP "FrostRingModel" 296 [108, 105, 109, 105, 116] A args s q :=
  str_one (by decide) (anL (anR (anL (anR (anR (anR (anR (anR hN)))))))) (anL (anR (anR (anL (anR (anR (anR (anR (anR hN))))))))) (anR (anR (anR (anL (anR (anR (anR (anR (anR hN))))))))) (anL (anL (anR (anR (anR (anR (anR (anR hN)))))))) (fun j hj => match j, hj with
  | 0, _ => (anL (anR (anL (anR (anR (anR (anR (anR (anR hN)))))))))
  | 1, _ => (anR (anR (anL (anR (anR (anR (anR (anR (anR hN)))))))))
  | 2, _ => (anL (anL (anR (anR (anR (anR (anR (anR (anR hN)))))))))
  | 3, _ => (anR (anL (anR (anR (anR (anR (anR (anR (anR hN)))))))))
  | 4, _ => (anL (anR (anR (anR (anR (anR (anR (anR (anR hN)))))))))
  | j + 5, h => absurd h (by simp only [List.length_cons, List.length_nil]; omega)) hA
def strP (w : Nat) : String × Nat := (([("FrostRing$Parser", 64), ("FrostRing$Parser", 161), ("FrostRing$Parser", 175), ("FrostRing$Parser", 180), ("FrostRing$Parser", 184), ("FrostRing$Parser", 77), ("FrostRing$Parser", 188), ("FrostRing$Parser", 82), ("FrostRing$Parser", 199), ("FrostRing$Parser", 87), ("FrostRing$Parser", 92), ("FrostRing$Parser", 100), ("FrostRing$Parser", 208), ("FrostRing$Parser", 114), ("FrostRing$Parser", 119), ("FrostRing$Parser", 217), ("FrostRing$Parser", 131), ("FrostRing$Parser", 221), ("FrostRing$Parser", 241), ("FrostRing$Parser", 243), ("FrostRing$Parser", 245), ("FrostRing$Parser", 247), ("FrostRing$Parser", 249), ("FrostRing$Parser", 236), ("FrostRingModel", 234), ("FrostRingModel", 259), ("FrostRingModel", 261), ("FrostRingModel", 263), ("FrostRingModel", 264), ("FrostRingModel", 266), ("FrostRingModel", 268), ("FrostRingModel", 270), ("FrostRingModel", 272), ("FrostRingModel", 200), ("FrostRingModel", 206), ("FrostRingModel", 208), ("FrostRingModel", 210), ("FrostRingModel", 222), ("FrostRingModel", 236), ("FrostRingModel", 238), ("FrostRingModel", 252), ("FrostRingModel", 239), ("FrostRingModel", 241), ("FrostRingModel", 243), ("FrostRingModel", 245), ("FrostRingModel", 247), ("FrostRingModel", 257), ("FrostRingModel", 296)] : List (String × Nat))).getD w ("", 0)
theorem str_all {args : Array Value} {s : State} {A : Nat → Prop} (hN : narrow_1.before args s = true) (hA : ∀ a : Nat, a < s.heap.size → ¬ A a) : ∀ w, ∃ q, w < txc_T.length → StrP (strP w).1 (strP w).2 (txc_T.getD w []) A args s q := by
  intro w
  match w with
  | 0 => obtain ⟨q, h⟩ := str_0 (A := A) hN hA; exact ⟨q, fun _ => h⟩
  | 1 => obtain ⟨q, h⟩ := str_1 (A := A) hN hA; exact ⟨q, fun _ => h⟩
  | 2 => obtain ⟨q, h⟩ := str_2 (A := A) hN hA; exact ⟨q, fun _ => h⟩
  | 3 => obtain ⟨q, h⟩ := str_3 (A := A) hN hA; exact ⟨q, fun _ => h⟩
  | 4 => obtain ⟨q, h⟩ := str_4 (A := A) hN hA; exact ⟨q, fun _ => h⟩
  | 5 => obtain ⟨q, h⟩ := str_5 (A := A) hN hA; exact ⟨q, fun _ => h⟩
  | 6 => obtain ⟨q, h⟩ := str_6 (A := A) hN hA; exact ⟨q, fun _ => h⟩
  | 7 => obtain ⟨q, h⟩ := str_7 (A := A) hN hA; exact ⟨q, fun _ => h⟩
  | 8 => obtain ⟨q, h⟩ := str_8 (A := A) hN hA; exact ⟨q, fun _ => h⟩
  | 9 => obtain ⟨q, h⟩ := str_9 (A := A) hN hA; exact ⟨q, fun _ => h⟩
  | 10 => obtain ⟨q, h⟩ := str_10 (A := A) hN hA; exact ⟨q, fun _ => h⟩
  | 11 => obtain ⟨q, h⟩ := str_11 (A := A) hN hA; exact ⟨q, fun _ => h⟩
  | 12 => obtain ⟨q, h⟩ := str_12 (A := A) hN hA; exact ⟨q, fun _ => h⟩
  | 13 => obtain ⟨q, h⟩ := str_13 (A := A) hN hA; exact ⟨q, fun _ => h⟩
  | 14 => obtain ⟨q, h⟩ := str_14 (A := A) hN hA; exact ⟨q, fun _ => h⟩
  | 15 => obtain ⟨q, h⟩ := str_15 (A := A) hN hA; exact ⟨q, fun _ => h⟩
  | 16 => obtain ⟨q, h⟩ := str_16 (A := A) hN hA; exact ⟨q, fun _ => h⟩
  | 17 => obtain ⟨q, h⟩ := str_17 (A := A) hN hA; exact ⟨q, fun _ => h⟩
  | 18 => obtain ⟨q, h⟩ := str_18 (A := A) hN hA; exact ⟨q, fun _ => h⟩
  | 19 => obtain ⟨q, h⟩ := str_19 (A := A) hN hA; exact ⟨q, fun _ => h⟩
  | 20 => obtain ⟨q, h⟩ := str_20 (A := A) hN hA; exact ⟨q, fun _ => h⟩
  | 21 => obtain ⟨q, h⟩ := str_21 (A := A) hN hA; exact ⟨q, fun _ => h⟩
  | 22 => obtain ⟨q, h⟩ := str_22 (A := A) hN hA; exact ⟨q, fun _ => h⟩
  | 23 => obtain ⟨q, h⟩ := str_23 (A := A) hN hA; exact ⟨q, fun _ => h⟩
  | 24 => obtain ⟨q, h⟩ := str_24 (A := A) hN hA; exact ⟨q, fun _ => h⟩
  | 25 => obtain ⟨q, h⟩ := str_25 (A := A) hN hA; exact ⟨q, fun _ => h⟩
  | 26 => obtain ⟨q, h⟩ := str_26 (A := A) hN hA; exact ⟨q, fun _ => h⟩
  | 27 => obtain ⟨q, h⟩ := str_27 (A := A) hN hA; exact ⟨q, fun _ => h⟩
  | 28 => obtain ⟨q, h⟩ := str_28 (A := A) hN hA; exact ⟨q, fun _ => h⟩
  | 29 => obtain ⟨q, h⟩ := str_29 (A := A) hN hA; exact ⟨q, fun _ => h⟩
  | 30 => obtain ⟨q, h⟩ := str_30 (A := A) hN hA; exact ⟨q, fun _ => h⟩
  | 31 => obtain ⟨q, h⟩ := str_31 (A := A) hN hA; exact ⟨q, fun _ => h⟩
  | 32 => obtain ⟨q, h⟩ := str_32 (A := A) hN hA; exact ⟨q, fun _ => h⟩
  | 33 => obtain ⟨q, h⟩ := str_33 (A := A) hN hA; exact ⟨q, fun _ => h⟩
  | 34 => obtain ⟨q, h⟩ := str_34 (A := A) hN hA; exact ⟨q, fun _ => h⟩
  | 35 => obtain ⟨q, h⟩ := str_35 (A := A) hN hA; exact ⟨q, fun _ => h⟩
  | 36 => obtain ⟨q, h⟩ := str_36 (A := A) hN hA; exact ⟨q, fun _ => h⟩
  | 37 => obtain ⟨q, h⟩ := str_37 (A := A) hN hA; exact ⟨q, fun _ => h⟩
  | 38 => obtain ⟨q, h⟩ := str_38 (A := A) hN hA; exact ⟨q, fun _ => h⟩
  | 39 => obtain ⟨q, h⟩ := str_39 (A := A) hN hA; exact ⟨q, fun _ => h⟩
  | 40 => obtain ⟨q, h⟩ := str_40 (A := A) hN hA; exact ⟨q, fun _ => h⟩
  | 41 => obtain ⟨q, h⟩ := str_41 (A := A) hN hA; exact ⟨q, fun _ => h⟩
  | 42 => obtain ⟨q, h⟩ := str_42 (A := A) hN hA; exact ⟨q, fun _ => h⟩
  | 43 => obtain ⟨q, h⟩ := str_43 (A := A) hN hA; exact ⟨q, fun _ => h⟩
  | 44 => obtain ⟨q, h⟩ := str_44 (A := A) hN hA; exact ⟨q, fun _ => h⟩
  | 45 => obtain ⟨q, h⟩ := str_45 (A := A) hN hA; exact ⟨q, fun _ => h⟩
  | 46 => obtain ⟨q, h⟩ := str_46 (A := A) hN hA; exact ⟨q, fun _ => h⟩
  | 47 => obtain ⟨q, h⟩ := str_47 (A := A) hN hA; exact ⟨q, fun _ => h⟩
  | w + 48 => exact ⟨(0, 0), fun h => absurd h (by simp only [txc_T, List.length_cons, List.length_nil]; omega)⟩
theorem nest_in : ∀ w ∈ nestW, w ∈ lw_tbl := by
  intro w hw
  simp only [nestW, List.mem_cons, List.not_mem_nil, or_false] at hw
  rcases hw with rfl | rfl | rfl | rfl | rfl | rfl | rfl | rfl | rfl | rfl | rfl
  · exact it_1 (List.mem_of_getElem? (i := 32) rfl)
  · exact it_1 (List.mem_of_getElem? (i := 38) rfl)
  · exact it_1 (List.mem_of_getElem? (i := 86) rfl)
  · exact it_1 (List.mem_of_getElem? (i := 127) rfl)
  · exact it_1 (List.mem_of_getElem? (i := 152) rfl)
  · exact it_1 (List.mem_of_getElem? (i := 179) rfl)
  · exact it_2 (List.mem_of_getElem? (i := 44) rfl)
  · exact it_2 (List.mem_of_getElem? (i := 106) rfl)
  · exact it_2 (List.mem_of_getElem? (i := 122) rfl)
  · exact it_4 (List.mem_of_getElem? (i := 45) rfl)
  · exact it_4 (List.mem_of_getElem? (i := 53) rfl)
theorem sref_in : ∀ q ∈ str_T, Cond.stringRef q.1 q.2.1 q.2.2.1 ∈ lw_tbl ∧ q.2.2.2 < txc_T.length ∧ strP q.2.2.2 = (q.1, q.2.1) := by
  intro q hq
  simp only [str_T, List.mem_cons, List.not_mem_nil, or_false] at hq
  rcases hq with rfl | rfl | rfl | rfl | rfl | rfl | rfl | rfl | rfl | rfl | rfl | rfl | rfl | rfl | rfl | rfl | rfl | rfl | rfl | rfl | rfl | rfl | rfl | rfl | rfl | rfl | rfl | rfl | rfl | rfl | rfl | rfl | rfl | rfl | rfl | rfl | rfl | rfl | rfl | rfl | rfl | rfl | rfl | rfl | rfl | rfl | rfl | rfl
  · exact ⟨it_3 (List.mem_of_getElem? (i := 36) rfl), by decide, rfl⟩
  · exact ⟨it_3 (List.mem_of_getElem? (i := 110) rfl), by decide, rfl⟩
  · exact ⟨it_3 (List.mem_of_getElem? (i := 115) rfl), by decide, rfl⟩
  · exact ⟨it_3 (List.mem_of_getElem? (i := 116) rfl), by decide, rfl⟩
  · exact ⟨it_3 (List.mem_of_getElem? (i := 117) rfl), by decide, rfl⟩
  · exact ⟨it_3 (List.mem_of_getElem? (i := 118) rfl), by decide, rfl⟩
  · exact ⟨it_3 (List.mem_of_getElem? (i := 123) rfl), by decide, rfl⟩
  · exact ⟨it_3 (List.mem_of_getElem? (i := 127) rfl), by decide, rfl⟩
  · exact ⟨it_3 (List.mem_of_getElem? (i := 132) rfl), by decide, rfl⟩
  · exact ⟨it_3 (List.mem_of_getElem? (i := 133) rfl), by decide, rfl⟩
  · exact ⟨it_3 (List.mem_of_getElem? (i := 138) rfl), by decide, rfl⟩
  · exact ⟨it_3 (List.mem_of_getElem? (i := 143) rfl), by decide, rfl⟩
  · exact ⟨it_3 (List.mem_of_getElem? (i := 152) rfl), by decide, rfl⟩
  · exact ⟨it_3 (List.mem_of_getElem? (i := 157) rfl), by decide, rfl⟩
  · exact ⟨it_3 (List.mem_of_getElem? (i := 163) rfl), by decide, rfl⟩
  · exact ⟨it_3 (List.mem_of_getElem? (i := 168) rfl), by decide, rfl⟩
  · exact ⟨it_3 (List.mem_of_getElem? (i := 173) rfl), by decide, rfl⟩
  · exact ⟨it_3 (List.mem_of_getElem? (i := 178) rfl), by decide, rfl⟩
  · exact ⟨it_3 (List.mem_of_getElem? (i := 187) rfl), by decide, rfl⟩
  · exact ⟨it_3 (List.mem_of_getElem? (i := 188) rfl), by decide, rfl⟩
  · exact ⟨it_3 (List.mem_of_getElem? (i := 189) rfl), by decide, rfl⟩
  · exact ⟨it_3 (List.mem_of_getElem? (i := 190) rfl), by decide, rfl⟩
  · exact ⟨it_3 (List.mem_of_getElem? (i := 191) rfl), by decide, rfl⟩
  · exact ⟨it_3 (List.mem_of_getElem? (i := 200) rfl), by decide, rfl⟩
  · exact ⟨it_6 (List.mem_of_getElem? (i := 112) rfl), by decide, rfl⟩
  · exact ⟨it_6 (List.mem_of_getElem? (i := 119) rfl), by decide, rfl⟩
  · exact ⟨it_6 (List.mem_of_getElem? (i := 120) rfl), by decide, rfl⟩
  · exact ⟨it_6 (List.mem_of_getElem? (i := 121) rfl), by decide, rfl⟩
  · exact ⟨it_6 (List.mem_of_getElem? (i := 122) rfl), by decide, rfl⟩
  · exact ⟨it_6 (List.mem_of_getElem? (i := 123) rfl), by decide, rfl⟩
  · exact ⟨it_6 (List.mem_of_getElem? (i := 124) rfl), by decide, rfl⟩
  · exact ⟨it_6 (List.mem_of_getElem? (i := 125) rfl), by decide, rfl⟩
  · exact ⟨it_6 (List.mem_of_getElem? (i := 126) rfl), by decide, rfl⟩
  · exact ⟨it_6 (List.mem_of_getElem? (i := 144) rfl), by decide, rfl⟩
  · exact ⟨it_6 (List.mem_of_getElem? (i := 153) rfl), by decide, rfl⟩
  · exact ⟨it_6 (List.mem_of_getElem? (i := 154) rfl), by decide, rfl⟩
  · exact ⟨it_6 (List.mem_of_getElem? (i := 155) rfl), by decide, rfl⟩
  · exact ⟨it_6 (List.mem_of_getElem? (i := 172) rfl), by decide, rfl⟩
  · exact ⟨it_6 (List.mem_of_getElem? (i := 178) rfl), by decide, rfl⟩
  · exact ⟨it_6 (List.mem_of_getElem? (i := 183) rfl), by decide, rfl⟩
  · exact ⟨it_6 (List.mem_of_getElem? (i := 188) rfl), by decide, rfl⟩
  · exact ⟨it_6 (List.mem_of_getElem? (i := 197) rfl), by decide, rfl⟩
  · exact ⟨it_6 (List.mem_of_getElem? (i := 198) rfl), by decide, rfl⟩
  · exact ⟨it_6 (List.mem_of_getElem? (i := 199) rfl), by decide, rfl⟩
  · exact ⟨it_6 (List.mem_of_getElem? (i := 200) rfl), by decide, rfl⟩
  · exact ⟨it_6 (List.mem_of_getElem? (i := 201) rfl), by decide, rfl⟩
  · exact ⟨it_6 (List.mem_of_getElem? (i := 202) rfl), by decide, rfl⟩
  · exact ⟨it_6 (List.mem_of_getElem? (i := 203) rfl), by decide, rfl⟩
theorem cls_know {args : Array Value} {s : State} (hts : ∀ w ∈ lw_tbl, w.before args s = true) : ∀ c : Nat, ∃ r : ClassId × (Nat → Nat), ∀ q : vw_C, cls_T[c]? = some q → u_Kn s q.1 q.2.1 q.2.2 r.1 r.2 := by
  intro c
  match c with
  | 0 => obtain ⟨cC, iS, h⟩ := u_known (C := RX0) (T := TX0) (N := 2) (n := 2) hts uw_X0 (hts _ (it_1 (List.mem_of_getElem? (i := 178) rfl))); exact ⟨(cC, iS), fun q hq => by cases hq; exact h⟩
  | 1 => obtain ⟨cC, iS, h⟩ := u_known (C := RX1) (T := TX1) (N := 4) (n := 4) hts uw_X1 (hts _ (it_1 (List.mem_of_getElem? (i := 126) rfl))); exact ⟨(cC, iS), fun q hq => by cases hq; exact h⟩
  | 2 => obtain ⟨cC, iS, h⟩ := u_known (C := RX2) (T := TX2) (N := 8) (n := 8) hts uw_X2 (hts _ (it_2 (List.mem_of_getElem? (i := 72) rfl))); exact ⟨(cC, iS), fun q hq => by cases hq; exact h⟩
  | 3 => obtain ⟨cC, iS, h⟩ := u_known (C := RX3) (T := TX3) (N := 7) (n := 7) hts uw_X3 (hts _ (it_1 (List.mem_of_getElem? (i := 85) rfl))); exact ⟨(cC, iS), fun q hq => by cases hq; exact h⟩
  | 4 => obtain ⟨cC, iS, h⟩ := u_known (C := RX4) (T := TX4) (N := 6) (n := 6) hts uw_X4 (hts _ (it_2 (List.mem_of_getElem? (i := 43) rfl))); exact ⟨(cC, iS), fun q hq => by cases hq; exact h⟩
  | 5 => obtain ⟨cC, iS, h⟩ := u_known (C := RX5) (T := TX5) (N := 5) (n := 5) hts uw_X5 (hts _ (it_1 (List.mem_of_getElem? (i := 151) rfl))); exact ⟨(cC, iS), fun q hq => by cases hq; exact h⟩
  | 6 => obtain ⟨cC, iS, h⟩ := u_known (C := RX6) (T := TX6) (N := 3) (n := 3) hts uw_X6 (hts _ (it_2 (List.mem_of_getElem? (i := 158) rfl))); exact ⟨(cC, iS), fun q hq => by cases hq; exact h⟩
  | 7 => obtain ⟨cC, iS, h⟩ := u_known (C := RX7) (T := TX7) (N := 7) (n := 7) hts uw_X7 (hts _ (it_1 (List.mem_of_getElem? (i := 37) rfl))); exact ⟨(cC, iS), fun q hq => by cases hq; exact h⟩
  | 8 => obtain ⟨cC, iS, h⟩ := u_known (C := RX8) (T := TX8) (N := 17) (n := 17) hts uw_X8 (hts _ (it_1 (List.mem_of_getElem? (i := 31) rfl))); exact ⟨(cC, iS), fun q hq => by cases hq; exact h⟩
  | 9 => obtain ⟨cC, iS, h⟩ := u_known (C := RX9) (T := TX9) (N := 3) (n := 3) hts uw_X9 (hts _ (it_2 (List.mem_of_getElem? (i := 105) rfl))); exact ⟨(cC, iS), fun q hq => by cases hq; exact h⟩
  | 10 => obtain ⟨cC, iS, h⟩ := u_known (C := RX10) (T := TX10) (N := 10) (n := 10) hts uw_X10 (hts _ (it_2 (List.mem_of_getElem? (i := 121) rfl))); exact ⟨(cC, iS), fun q hq => by cases hq; exact h⟩
  | 11 => obtain ⟨cC, iS, h⟩ := u_known (C := RX11) (T := TX11) (N := 13) (n := 13) hts uw_X11 (hts _ (it_1 (List.mem_of_getElem? (i := 23) rfl))); exact ⟨(cC, iS), fun q hq => by cases hq; exact h⟩
  | 12 => obtain ⟨cC, iS, h⟩ := u_known (C := RX12) (T := TX12) (N := 40) (n := 40) hts uw_X12 (hts _ (it_5 (List.mem_of_getElem? (i := 165) rfl))); exact ⟨(cC, iS), fun q hq => by cases hq; exact h⟩
  | c + 13 => exact ⟨(0, fun _ => 0), fun q hq => by simp [cls_T] at hq⟩
theorem arr_prim {args : Array Value} {s : State} {ty : FieldType} (h : (Cond.arrayClass ty).before args s = true) (hr : ∀ c, s.vm.findClass ("[" ++ ty.toString) = some c → va_RA s c ty) : ∃ c, ArrOfT s c ty ∧ va_RA s c ty := by
  obtain ⟨c, k, comp, h1, h2, h3⟩ := Cond.arrayClass_spec h
  exact ⟨c, fun N z => ⟨(fun k h => by cases h), k, h2, comp, h3⟩, hr c h1⟩
theorem arr_obj {args : Array Value} {s : State} {C : String} (h : (Cond.arrayOver (.object C)).before args s = true) : ∃ c, ArrOfT s c (.object C) ∧ va_RA s c (.object C) := by
  obtain ⟨comp, c, k, h1, h2, h3, h4, h5⟩ := Cond.arrayOver_spec h
  exact ⟨c, fun N z => ⟨(fun k h => by cases h), k, h3, comp, h4⟩, k, comp, h3, h4, h1, h5⟩
theorem arr_arr {args : Array Value} {s : State} (h : (Cond.arrayOver (.array .long)).before args s = true) : ∃ c, ArrOfT s c (.array .long) ∧ va_RA s c (.array .long) := by
  unfold Cond.before Cond.holds at h
  simp only [Cond.value] at h
  cases hc : s.vm.findClass (FieldType.array .long).toString with
  | none => simp [hc] at h
  | some comp =>
    rw [hc, Option.bind_some] at h
    generalize hi : (s.vm.classes.findIdx? fun (x : Class) => match x.kind with | .array component _ => component == comp | _ => false) = oi at h
    cases oi with
    | none => simp at h
    | some c =>
      simp only [Option.bind_some] at h
      cases hk : s.vm.classes[c]? with
      | none => simp [hk] at h
      | some k =>
        rw [hk] at h
        cases hkd : k.kind with
        | array cp ty =>
          simp [hkd] at h
          obtain ⟨e1, e2⟩ := h
          subst e1
          exact ⟨c, fun N z => ⟨(fun k h => by cases h), k, hk, cp, hkd⟩, e2⟩
        | _ => simp [hkd] at h
theorem arr_know {args : Array Value} {s : State} (hts : ∀ w ∈ lw_tbl, w.before args s = true) : ∀ k : Nat, ∃ c : ClassId, ∀ ty : FieldType, arr_T[k]? = some ty → ArrOfT s c ty ∧ va_RA s c ty := by
  intro k
  match k with
  | 0 => obtain ⟨c, h⟩ := arr_prim (hts _ (it_1 (List.mem_of_getElem? (i := 83) rfl))) (fun c h => h); exact ⟨c, fun ty hy => by cases hy; exact h⟩
  | 1 => obtain ⟨c, h⟩ := arr_prim (hts _ (it_6 (List.mem_of_getElem? (i := 65) rfl))) (fun c h => h); exact ⟨c, fun ty hy => by cases hy; exact h⟩
  | 2 => obtain ⟨c, h⟩ := arr_prim (hts _ (it_3 (List.mem_of_getElem? (i := 209) rfl))) (fun c h => h); exact ⟨c, fun ty hy => by cases hy; exact h⟩
  | 3 => obtain ⟨c, h⟩ := arr_prim (hts _ (it_2 (List.mem_of_getElem? (i := 180) rfl))) (fun c h => h); exact ⟨c, fun ty hy => by cases hy; exact h⟩
  | 4 => obtain ⟨c, h⟩ := arr_obj (hts _ (it_2 (List.mem_of_getElem? (i := 41) rfl))); exact ⟨c, fun ty hy => by cases hy; exact h⟩
  | 5 => obtain ⟨c, h⟩ := arr_arr (hts _ (it_2 (List.mem_of_getElem? (i := 164) rfl))); exact ⟨c, fun ty hy => by cases hy; exact h⟩
  | k + 6 => exact ⟨0, fun ty hy => by simp [arr_T] at hy⟩
def z0 : Hp := (0, fun _ => (0, 0), fun _ _ => 0, fun _ _ => 0, fun _ _ => none)
theorem start_know {s : State} {b L : Nat} {xs : Nat → Int32} (hts : ∀ w ∈ lw_tbl, w.before #[Value.ref b] s = true) (hX : va_X b L xs s s.heap) (hbl : b < s.heap.size) (hN : narrow_1.before #[Value.ref b] s = true) : ∃ Γ : Am, mX Γ = (b, L, xs) ∧ mB Γ = s.heap.size ∧ Kw Γ s ∧ Rl Γ z0 s.heap := by
  have hA : ∀ a : Nat, a < s.heap.size → ¬ s.heap.size ≤ a := fun a h => Nat.not_le.mpr h
  obtain ⟨ck, hck⟩ := Classical.axiomOfChoice (cls_know hts)
  obtain ⟨ak, hak⟩ := Classical.axiomOfChoice (arr_know hts)
  obtain ⟨sk, hsk⟩ := Classical.axiomOfChoice (str_all (A := fun q => s.heap.size ≤ q) hN hA)
  refine ⟨(s.heap.size, s.heap, fun c => (ck c).1, fun c => (ck c).2, ak, fun w => (sk w).1, fun w => (sk w).2, (b, L, xs)), rfl, rfl, ⟨fun c q hq => hck c q hq, fun k ty hk => hak k ty hk, fun w hw => ?_, fun q hq => ?_, va_AO.of (hts _ (it_2 (List.mem_of_getElem? (i := 41) rfl))), hts _ (it_2 (List.mem_of_getElem? (i := 164) rfl)), ?_⟩, ?_⟩
  · obtain ⟨a, i, x, h, rfl⟩ := nestW_link w hw
    exact va_Nw.of rfl (hts _ (nest_in _ hw))
  · obtain ⟨h1, h2, h3⟩ := sref_in q hq
    have h4 := (hsk q.2.2.2 h2).1
    rw [h3] at h4
    exact vk_R.of (hts _ h1) h4
  · refine ⟨fun w hw => (hsk w hw).2, ?_, ?_, hX, hbl⟩
    · exact va_Zof (hts _ (it_3 (List.mem_of_getElem? (i := 50) rfl))) (hts _ (it_1 (List.mem_of_getElem? (i := 16) rfl))) (va_eqi (anR (anR (anL (anL (anL (anL (anL (anL (anL hN)))))))))) hA
    · obtain ⟨v, hv, hr⟩ := Cond.isRef_spec (anL (anR (anL (anL (anL (anL (anL (anL hN))))))))
      exact ⟨v, by cases v <;> first | rfl | (simp [Value.isRef] at hr), va_Zof (hts _ (it_3 (List.mem_of_getElem? (i := 66) rfl))) (hts _ (it_1 (List.mem_of_getElem? (i := 18) rfl))) hv hA⟩
  · exact ⟨rfl, fun q _ => rfl, fun a => trivial, fun a _ => rfl⟩
