theorem z_strs {args : Array Value} {s : State} {A : Nat → Prop} (hs : ∀ c ∈ z_gv, c.before args s = true) (hA : ∀ a : Nat, a < s.heap.size → ¬ A a) : ∃ ad : Nat → Nat × Nat, ∀ i : Nat, i < 35 → (z_stm i).eval args s none [] s = some (.ref (ad i).1) ∧ va_O "java/lang/String" (ad i).1 A s s.heap ∧ va_OF "java/lang/String" "coder" "B" (.int 0) (ad i).1 A s s.heap ∧ va_OF "java/lang/String" "value" "[B" (.ref (ad i).2) (ad i).1 A s s.heap ∧ va_T .byte (ad i).2 (z_len.getD i 0) (fun j => .int ((z_byt.getD i []).getD j 0)) A s s.heap := by
  have h0 : ∀ i : Nat, ∃ q : Nat × Nat, i < 35 → (z_stm i).eval args s none [] s = some (.ref q.1) ∧ va_O "java/lang/String" q.1 A s s.heap ∧ va_OF "java/lang/String" "coder" "B" (.int 0) q.1 A s s.heap ∧ va_OF "java/lang/String" "value" "[B" (.ref q.2) q.1 A s s.heap ∧ va_T .byte q.2 (z_len.getD i 0) (fun j => .int ((z_byt.getD i []).getD j 0)) A s s.heap := by
    intro i
    by_cases hi : i < 35
    · obtain ⟨a, c, cA, kA, q1, q2, q3, q4, q5, q6, -⟩ := Cond.exactly_spec (args := args) (first := s) (o := none) (s := s) (idx := []) (t := z_stm i) (cls := "java/lang/String") (hs _ (z_g1 i hi))
      have h7 := (z_len7 i hi).1
      obtain ⟨t, ht, hT⟩ := va_Tof (f := fun j => .int ((z_byt.getD i []).getD j 0)) (A := A) (N := z_len.getD i 0) (by omega) (hs _ (z_g3 i hi)) (va_eqt (hs _ (z_g4 i hi))) (fun j hj => va_eqt (hs _ (z_g5 i hi j hj))) hA
      exact ⟨(a, t), fun _ => ⟨q1, ⟨cA, q3, q5, by rw [q6]; exact q2, hA a (Array.getElem?_eq_some_iff.mp q3).1⟩, vk_OFof q1 (va_eqt (hs _ (z_g2 i hi))) hA, vk_OFof q1 ht hA, hT⟩⟩
    · exact ⟨(0, 0), fun h => absurd h hi⟩
  exact Classical.axiomOfChoice h0
theorem z_clss {args : Array Value} {s : State} (hts : ∀ w ∈ z_tb, w.before args s = true) : ∃ D : va_G, ∀ (c : Nat) (q : vw_C), z_Cl[c]? = some q → u_Kn s q.1 q.2.1 q.2.2 (D.1 c) (D.2 c) := by
  have h0 : ∀ c : Nat, ∃ q : ClassId × (Nat → Nat), ∀ k : vw_C, z_Cl[c]? = some k → u_Kn s k.1 k.2.1 k.2.2 q.1 q.2 := by
    intro c
    have key : ∀ (ci : Nat) (C : String) (N : Nat) (T : u_T) (ty : Nat → FieldType), z_cls ci C T N ty → Cond.instantiable C N ∈ z_tb → ∃ q : ClassId × (Nat → Nat), ∀ k : vw_C, z_Cl[ci]? = some k → u_Kn s k.1 k.2.1 k.2.2 q.1 q.2 := by
      intro ci C N T ty hk hi
      obtain ⟨cC, iS, h⟩ := u_known hts hk.2.1 (hts _ hi)
      refine ⟨(cC, iS), fun k hk2 => ?_⟩
      rw [hk.1] at hk2
      cases hk2
      exact h
    by_cases hc : c < 11
    · rcases (show c = 0 ∨ c = 1 ∨ c = 2 ∨ c = 3 ∨ c = 4 ∨ c = 5 ∨ c = 6 ∨ c = 7 ∨ c = 8 ∨ c = 9 ∨ c = 10 by omega) with rfl | rfl | rfl | rfl | rfl | rfl | rfl | rfl | rfl | rfl | rfl
      · exact key 0 _ _ _ _ z_k0 ziRX0
      · exact key 1 _ _ _ _ z_k1 ziRX1
      · exact key 2 _ _ _ _ z_k2 ziRX2
      · exact key 3 _ _ _ _ z_k3 ziRX3
      · exact key 4 _ _ _ _ z_k4 ziRX4
      · exact key 5 _ _ _ _ z_k5 ziRX5
      · exact key 6 _ _ _ _ z_k6 ziRX6
      · exact key 7 _ _ _ _ z_k7 ziRX7
      · exact key 8 _ _ _ _ z_k8 ziRX8
      · exact key 9 _ _ _ _ z_k9 ziRJ0
      · exact key 10 _ _ _ _ z_k10 ziRJ4
    · refine ⟨(0, fun _ => 0), fun k hk => ?_⟩
      have := (List.getElem?_eq_some_iff.mp hk).1
      exact absurd this hc
  obtain ⟨f, hf⟩ := Classical.axiomOfChoice h0
  exact ⟨(fun c => (f c).1, fun c => (f c).2), fun c q hq => hf c q hq⟩
theorem z_ary {args : Array Value} {s : State} (ty : FieldType) (h : (Cond.arrayClass ty).before args s = true) (hn : ∀ C, ty ≠ .object C) : ∃ cA : ClassId, ArrOfT s cA ty ∧ va_RA s cA ty := by
  obtain ⟨c, k, comp, h1, h2, h3⟩ := Cond.arrayClass_spec h
  refine ⟨c, fun N z => ⟨(fun k h => by cases h), k, h2, comp, h3⟩, ?_⟩
  cases ty with
  | object C => exact absurd rfl (hn C)
  | _ => exact h1
theorem z_aro {args : Array Value} {s : State} (C : String) (h : (Cond.arrayOver (.object C)).before args s = true) : ∃ cA : ClassId, ArrOfT s cA (.object C) ∧ va_RA s cA (.object C) := by
  obtain ⟨comp, c, k, h1, h2, h3, h4, h5⟩ := Cond.arrayOver_spec h
  exact ⟨c, fun N z => ⟨(fun k h => by cases h), k, h3, comp, h4⟩, k, comp, h3, h4, h1, h5⟩
theorem z_dig {args : Array Value} {s : State} {A : Nat → Prop} (hs : ∀ c ∈ z_gv, c.before args s = true) (ht : ∀ w ∈ lw_tbl, w.before args s = true) (hA : ∀ a : Nat, a < s.heap.size → ¬ A a) : ∃ t u : Nat, (va_Z "java/lang/Integer" "DigitOnes" "[B" (.ref t) A s s.heap ∧ va_T .byte t 100 (fun j => .int (Int32.ofNat (48 + j % 10))) A s s.heap) ∧ (va_Z "java/lang/Integer" "DigitTens" "[B" (.ref u) A s s.heap ∧ va_T .byte u 100 (fun j => .int (Int32.ofNat (48 + j / 10))) A s s.heap) := by
  obtain ⟨t, t1, t2⟩ := va_Tof (f := fun j => .int (Int32.ofNat (48 + j % 10))) (A := A) (N := 100) (by decide) (hs _ z_d1.1) (va_eqt (hs _ z_d1.2)) (fun j hj => va_eqt (hs _ (z_d2 j hj))) hA
  obtain ⟨u, u1, u2⟩ := va_Tof (f := fun j => .int (Int32.ofNat (48 + j / 10))) (A := A) (N := 100) (by decide) (hs _ z_d3.1) (va_eqt (hs _ z_d3.2)) (fun j hj => va_eqt (hs _ (z_d4 j hj))) hA
  exact ⟨t, u, ⟨va_Zof (ht _ z_pst_5) (ht _ z_pst_7) t1 hA, t2⟩, ⟨va_Zof (ht _ z_pst_6) (ht _ z_pst_7) u1 hA, u2⟩⟩
