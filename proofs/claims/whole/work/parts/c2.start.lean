/-! THE CLAIM OUT OF ONE WALK OF THE LAW'S BODY. Your part is whole_start (and what it stands on); all else here is the same for every law, but numbers. -/
def R_law : String := "TimeGapsLaw"
def lw_P (b : Addr) (xs : List Int32) (args : Array Value) (s : State) : Prop := args = #[.ref b] ∧ s.IntsAt b xs ∧ xs.length ≤ 3072 ∧ (Jvm.Cond.and given_1 narrow_1).before args s = true
/-- what a walk over the start with the record d0 says of its end, said of the start itself -/
theorem lw_closed {s t : State} {o : Outcome} {d0 : Drawn} {L : List Loc} {k n : Nat} (hd0 : s.drawn.sameBut d0 lw_cs) (hv : ∃ v, o = .returned v) (hW : (s.setDrawn d0).WarmedH t.vm) (hs : (s.setDrawn d0).sameButNew ({ t with vm := s.vm } : State) L k n) : State.butDraws s t lw_cs (fun t1 => Framed s o t1 L k n) := by
  have h2 : t.drawn = d0 := congrArg State.drawn hs.1
  refine ⟨⟨hv, hW, State.sameButNew.setDrawn hs s.drawn⟩, ?_, by decide⟩
  rw [h2]
  exact hd0
def lw_Q (_ : Array Value) (s : State) (o : Outcome) (t : State) : Prop := o = .returned (some (.int 1)) ∧ State.butDraws s t lw_cs (fun t1 => Framed s o t1 [] 600000 7302250)
def lw_Z (below : List Frame) (a : Array Value) (s : State) : State → Prop := fun t => ∃ o, t.status = .running ∧ Ended t below o ∧ lw_Q a s o t
/-- the law's own end, with 1 on the stack, nothing written that was there before, its room as the claim has it; d0: the record of draws at this point (at the entry s.drawn: begin with 'refine W.base ?_' and 'have hd0 := Drawn.sameBut.refl s.drawn lw_cs') -/
theorem lw_ret {p : Program} {l : Launch} {e : Env} {s : State} {m : MethodId} {below : List Frame} {meth : Method} {c : Code} {b : Nat} {d0 : Drawn} (hd0 : s.drawn.sameBut d0 lw_cs) (hx : p.tables.exec = Jvm.exec) (hb : c.code = code) (hr : meth.sig.returnType = ret) (hlocks : meth.locks = false) {pc : Nat} {H : Heap} {ls : Array Slot} (hdg : decode code pc = .ok (.ireturn, 1)) : W p l e room_1 (s.setDrawn d0) m #[Value.ref b] below meth c H [] 600000 7302250 (lw_Z below #[Value.ref b] s) (F0 m pc ls [.int 1]) := by
  intro T hT X
  obtain ⟨fs, hret, hrun, hended, hW, hframe⟩ := X.leave (v := some (.int 1)) (hlocks := hlocks) (fun h => by rw [hr] at h; cases h)
  have hmeth' : T.vm.method? m = some meth := X.method'
  refine ⟨T.setFrames fs, ?_, .returned (some (.int 1)), hrun, hended, rfl, lw_closed hd0 ⟨_, rfl⟩ hW hframe⟩
  jvm_step X.here [X.here.top, hx, hb, hdg, hmeth', hr, ret, narrow_b1]
  (try refine ⟨rfl, ?_⟩); (try refine ⟨rfl, ?_⟩)
  first | (intro acts; rw [hret _ acts rfl rfl rfl]) | rw [hret _ _ rfl rfl rfl]
  exact Steps.refl _
/-- what holds at the law's entry: the machine, the code, the tables' words (any of lw_tbl by 'hts w (by decide +kernel)'), the script of L ints xs at the cell b, what the Statement gives of the start (any of its parts by flat_of_before) -/
def lw_At (p : Program) (s : State) (m : MethodId) (meth : Method) (c : Code) (b L : Nat) (xs : Nat → Int32) : Prop :=
  p.tables.exec = Jvm.exec ∧ c.code = code ∧ meth.sig.returnType = ret ∧ c.maxLocals = 8 ∧ s.vm.findClass R_law = some m.cls ∧ (∀ w ∈ lw_tbl, w.before #[Value.ref b] s = true) ∧ va_X b L xs s s.heap ∧ b < s.heap.size ∧ meth.locks = false ∧ (Jvm.Cond.and given_1 narrow_1).before #[Value.ref b] s = true
/-! THE START. -/
theorem z_lret {p : Program} {l : Launch} {e : Env} {s : State} {m : MethodId} {below : List Frame} {meth : Method} {c : Code} {b : Nat} {R : Room} {d0 : Drawn} (hd0 : s.drawn.sameBut d0 lw_cs) (hx : p.tables.exec = Jvm.exec) (hb : c.code = code) (hr : meth.sig.returnType = ret) (hlocks : meth.locks = false) {pc : Nat} {H : Heap} {ls : Array Slot} (hdg : decode code pc = .ok (.ireturn, 1)) : W p l e R (s.setDrawn d0) m #[Value.ref b] below meth c H [] 600000 7302250 (lw_Z below #[Value.ref b] s) (F0 m pc ls [.int 1]) := by
  intro T hT X
  obtain ⟨fs, hret, hrun, hended, hW, hframe⟩ := X.leave (v := some (.int 1)) (hlocks := hlocks) (fun h => by rw [hr] at h; cases h)
  have hmeth' : T.vm.method? m = some meth := X.method'
  refine ⟨T.setFrames fs, ?_, .returned (some (.int 1)), hrun, hended, rfl, lw_closed hd0 ⟨_, rfl⟩ hW hframe⟩
  jvm_step X.here [X.here.top, hx, hb, hdg, hmeth', hr, ret, narrow_b1]
  (try refine ⟨rfl, ?_⟩); (try refine ⟨rfl, ?_⟩)
  first | (intro acts; rw [hret _ acts rfl rfl rfl]) | rw [hret _ _ rfl rfl rfl]
  exact Steps.refl _
def z_stm (i : Nat) : Term := .string (z_sl.getD i ("", 0, "")).1 (z_sl.getD i ("", 0, "")).2.1
def z_gv : List Cond := flatC (Jvm.Cond.and given_1 narrow_1)
theorem z_g1 : ∀ i : Nat, i < 23 → (Cond.exactly (z_stm i) "java/lang/String") ∈ z_gv := by decide +kernel
theorem z_g2 : ∀ i : Nat, i < 23 → (Cond.eq (.field (z_stm i) "java/lang/String" "coder" "B") (.int 0)) ∈ z_gv := by decide +kernel
theorem z_g3 : ∀ i : Nat, i < 23 → (Cond.arrayOf (.field (z_stm i) "java/lang/String" "value" "[B") .byte) ∈ z_gv := by decide +kernel
theorem z_g4 : ∀ i : Nat, i < 23 → (Cond.eq (.length (.field (z_stm i) "java/lang/String" "value" "[B")) (.int (Int32.ofNat (z_len.getD i 0)))) ∈ z_gv := by decide +kernel
theorem z_g5 : ∀ i : Nat, i < 23 → ∀ j : Nat, j < z_len.getD i 0 → (Cond.eq (.elem (.field (z_stm i) "java/lang/String" "value" "[B") (.int (Int32.ofNat j))) (.int ((z_byt.getD i []).getD j 0))) ∈ z_gv := by decide +kernel
theorem z_g6 : ∀ i : Nat, i < 23 → (Cond.stringRef (z_sl.getD i ("", 0, "")).1 (z_sl.getD i ("", 0, "")).2.1 (z_sl.getD i ("", 0, "")).2.2) ∈ lw_tbl := by decide +kernel
theorem z_strs {args : Array Value} {s : State} {A : Nat → Prop} (hs : ∀ c ∈ z_gv, c.before args s = true) (hA : ∀ a : Nat, a < s.heap.size → ¬ A a) : ∃ ad : Nat → Nat × Nat, ∀ i : Nat, i < 23 → (z_stm i).eval args s none [] s = some (.ref (ad i).1) ∧ va_O "java/lang/String" (ad i).1 A s s.heap ∧ va_OF "java/lang/String" "coder" "B" (.int 0) (ad i).1 A s s.heap ∧ va_OF "java/lang/String" "value" "[B" (.ref (ad i).2) (ad i).1 A s s.heap ∧ va_T .byte (ad i).2 (z_len.getD i 0) (fun j => .int ((z_byt.getD i []).getD j 0)) A s s.heap := by
  have h0 : ∀ i : Nat, ∃ q : Nat × Nat, i < 23 → (z_stm i).eval args s none [] s = some (.ref q.1) ∧ va_O "java/lang/String" q.1 A s s.heap ∧ va_OF "java/lang/String" "coder" "B" (.int 0) q.1 A s s.heap ∧ va_OF "java/lang/String" "value" "[B" (.ref q.2) q.1 A s s.heap ∧ va_T .byte q.2 (z_len.getD i 0) (fun j => .int ((z_byt.getD i []).getD j 0)) A s s.heap := by
    intro i
    by_cases hi : i < 23
    · obtain ⟨a, c, cA, kA, q1, q2, q3, q4, q5, q6, -⟩ := Cond.exactly_spec (args := args) (first := s) (o := none) (s := s) (idx := []) (t := z_stm i) (cls := "java/lang/String") (hs _ (z_g1 i hi))
      have h7 := (z_len7 i hi).1
      obtain ⟨t, ht, hT⟩ := va_Tof (f := fun j => .int ((z_byt.getD i []).getD j 0)) (A := A) (N := z_len.getD i 0) (by omega) (hs _ (z_g3 i hi)) (va_eqt (hs _ (z_g4 i hi))) (fun j hj => va_eqt (hs _ (z_g5 i hi j hj))) hA
      exact ⟨(a, t), fun _ => ⟨q1, ⟨cA, q3, q5, by rw [q6]; exact q2, hA a (Array.getElem?_eq_some_iff.mp q3).1⟩, vk_OFof q1 (va_eqt (hs _ (z_g2 i hi))) hA, vk_OFof q1 ht hA, hT⟩⟩
    · exact ⟨(0, 0), fun h => absurd h hi⟩
  exact Classical.axiomOfChoice h0
theorem z_clss {args : Array Value} {s : State} (hts : ∀ w ∈ z_tb, w.before args s = true) : ∃ D : va_G, ∀ (c : Nat) (q : vw_C), vwCl[c]? = some q → u_Kn s q.1 q.2.1 q.2.2 (D.1 c) (D.2 c) := by
  have h0 : ∀ c : Nat, ∃ q : ClassId × (Nat → Nat), ∀ k : vw_C, vwCl[c]? = some k → u_Kn s k.1 k.2.1 k.2.2 q.1 q.2 := by
    intro c
    have key : ∀ (M' : z_M) (ci : Nat) (C : String) (N : Nat) (T : u_T) (ty : Nat → FieldType), z_cls ci C T N ty → Cond.instantiable C N ∈ z_tb → ∃ q : ClassId × (Nat → Nat), ∀ k : vw_C, vwCl[ci]? = some k → u_Kn s k.1 k.2.1 k.2.2 q.1 q.2 := by
      intro M' ci C N T ty hk hi
      obtain ⟨cC, iS, h⟩ := u_known hts hk.2.1 (hts _ hi)
      refine ⟨(cC, iS), fun k hk2 => ?_⟩
      rw [hk.1] at hk2
      cases hk2
      exact h
    by_cases hc : c < 10
    · rcases (show c = 0 ∨ c = 1 ∨ c = 2 ∨ c = 3 ∨ c = 4 ∨ c = 5 ∨ c = 6 ∨ c = 7 ∨ c = 8 ∨ c = 9 by omega) with rfl | rfl | rfl | rfl | rfl | rfl | rfl | rfl | rfl | rfl
      · exact key mX0_init 0 _ _ _ _ z_k0 (z_w1 327 (by decide +kernel) (by decide +kernel))
      · exact key mX0_init 1 _ _ _ _ z_k1 (z_w1 208 (by decide +kernel) (by decide +kernel))
      · exact key mX0_init 2 _ _ _ _ z_k2 (z_w1 298 (by decide +kernel) (by decide +kernel))
      · exact key mX0_init 3 _ _ _ _ z_k3 (z_w1 202 (by decide +kernel) (by decide +kernel))
      · exact key mX0_init 4 _ _ _ _ z_k4 (z_w1 364 (by decide +kernel) (by decide +kernel))
      · exact key mX0_init 5 _ _ _ _ z_k5 (z_w1 347 (by decide +kernel) (by decide +kernel))
      · exact key mX0_init 6 _ _ _ _ z_k6 (z_w1 370 (by decide +kernel) (by decide +kernel))
      · exact key mX0_init 7 _ _ _ _ z_k7 (z_w1 409 (by decide +kernel) (by decide +kernel))
      · exact key mX0_init 8 _ _ _ _ z_k8 (z_w1 194 (by decide +kernel) (by decide +kernel))
      · exact key mX0_init 9 _ _ _ _ z_k9 (z_w1 1262 (by decide +kernel) (by decide +kernel))
    · refine ⟨(0, fun _ => 0), fun k hk => ?_⟩
      have := (List.getElem?_eq_some_iff.mp hk).1
      exact absurd this hc
  obtain ⟨f, hf⟩ := Classical.axiomOfChoice h0
  exact ⟨(fun c => (f c).1, fun c => (f c).2), fun c q hq => hf c q hq⟩
theorem z_ary {args : Array Value} {s : State} (ty : FieldType) (h : (Cond.arrayClass ty).before args s = true) (hn : ∀ C, ty ≠ .object C) : ∃ cA : ClassId, ArrOfT s cA ty ∧ va_RA s cA ty := by
  obtain ⟨c, k, comp, h1, h2, h3⟩ := Cond.arrayClass_spec h
  refine ⟨c, fun N z => ⟨(fun k h => by cases h), k, h2, comp, h3⟩, ?_⟩
  cases ty with
  | object C => exact absurd rfl (hn C)
  | _ => exact h1
theorem z_aro {args : Array Value} {s : State} (C : String) (h : (Cond.arrayOver (.object C)).before args s = true) : ∃ cA : ClassId, ArrOfT s cA (.object C) ∧ va_RA s cA (.object C) := by
  obtain ⟨comp, c, k, h1, h2, h3, h4, h5⟩ := Cond.arrayOver_spec h
  exact ⟨c, fun N z => ⟨(fun k h => by cases h), k, h3, comp, h4⟩, k, comp, h3, h4, h1, h5⟩
/-- the law, from its first instruction -/
theorem z_lawAll {Q : Option z_V → z_S → Prop} {w : z_Mm} (h3 : 0 ≤ w 1001 0 ∧ w 1001 0 ≤ 3072) (hq : ∀ w', Q (some (z_i 1)) (z_shs, w')) : z_Sem mLw (0, 0) 0 [(0, z_r 1000)] [] ([], w) Q := by
  refine z_rngs (fun hR => ?_)
  have e0 : (([], w) : z_S).1.length = 0 := rfl
  refine z_new (fl := [some none, some none, some none, some none, some none, some none, some none, some none, none]) z_k8 (z_w1 193 (by decide +kernel) (by decide +kernel)) (z_w1 194 (by decide +kernel) (by decide +kernel)) (z_w1 177 (by decide +kernel) (by decide +kernel)) ⟨rfl, by decide +kernel⟩ (by show (0 : Nat) < 1000; decide) ⟨by show (0 : Nat) + 1 ≤ 0 + 177; decide, by decide⟩ dL_law_0 ?_
  rw [z_nwE (S := []) (m := 0) rfl]
  show z_Sem mLw (0, 9) 3 [(0, z_r 1000)] [z_r 0] ([.inl (8, [some none, some none, some none, some none, some none, some none, some none, some none, none])], z_zf w 0 1) Q
  refine z_dup dL_law_3 rfl ?_
  refine z_callI (M' := mX8_init) (As := []) (rest := [z_r 0]) (a := 0) zmX8_init znX8_init rfl rfl zlRL_9 ⟨Nat.le_of_ble_eq_true rfl, Nat.le_of_ble_eq_true rfl⟩ dL_law_4 rfl rfl rfl z_a0 (Nat.le_of_ble_eq_true rfl) (Nat.le_of_ble_eq_true rfl) ⟨by show (1 : Nat) + 160 ≤ 0 + 177; decide, by decide⟩ ?_
  refine z_newTG (fun w1 c1 c2 c3 c4 c5 f1 => ?_)
  show z_Sem mLw (0, 6901) 7 [(0, z_r 1000)] [z_r 0] (z_tgs, w1) Q
  refine z_astore_n dL_law_7 rfl (by decide) rfl ?_
  refine z_new (fl := [some none, none, none, some none, some none, some none, some none, some none, none, some none, some none, some none, some none, none, some none, none, none, none, none, none, none, some none, some none, none, none, none, some none, some none, none]) z_k9 (z_w1 1261 (by decide +kernel) (by decide +kernel)) (z_w1 1262 (by decide +kernel) (by decide +kernel)) (z_w1 191 (by decide +kernel) (by decide +kernel)) ⟨rfl, by decide +kernel⟩ (by show z_tgs.length < 1000; rw [z_tgs_len]; decide) ⟨by show z_tgs.length + 1 ≤ 0 + 177; rw [z_tgs_len]; decide, by decide⟩ dL_law_8 ?_
  rw [z_nwE (S := z_tgs) (m := 161) z_tgs_len]
  rw [show ((z_tgs, w1) : z_S).1.length = 161 from z_tgs_len]
  refine z_dup dL_law_11 rfl ?_
  have l2 : (z_tgs ++ [(.inl (9, [some none, none, none, some none, some none, some none, some none, some none, none, some none, some none, some none, some none, none, some none, none, none, none, none, none, none, some none, some none, none, none, none, some none, some none, none]) : z_C)]).length = 162 := by rw [List.length_append, z_tgs_len]; rfl
  have e9 : ∀ u : z_Mm, ((z_tgs ++ [(.inl (9, [some none, none, none, some none, some none, some none, some none, some none, none, some none, some none, some none, some none, none, some none, none, none, none, none, none, none, some none, some none, none, none, none, some none, some none, none]) : z_C)], u) : z_S).1.length = 162 := fun _ => l2
  refine z_callI (M' := mX9_init) (As := []) (rest := [z_r 161]) (a := 161) zmX9_init znX9_init rfl rfl zlRL_12 ⟨Nat.le_of_ble_eq_true rfl, Nat.le_of_ble_eq_true rfl⟩ dL_law_12 (z_apget z_tgs_len) rfl rfl z_a0 (Nat.le_of_ble_eq_true rfl) (Nat.le_of_ble_eq_true rfl) ⟨by dsimp only; rw [l2]; decide, by decide⟩ ?_
  rw [e9]
  refine z_newMd (fun w2 m1 m2 m3 m4 f2 => ?_) (fun j => z_zf_in (by decide) (by decide))
  show z_Sem mLw (0, 12772) 15 [(1, z_r 0), (0, z_r 1000)] [z_r 161] (z_shs, w2) Q
  refine z_astore_n dL_law_15 rfl (by decide) rfl ?_
  refine z_iconst (n := 0) dL_law_16 (by constructor <;> decide) ?_
  refine z_istore_n dL_law_17 rfl (by decide) rfl ?_
  have o2 : ∀ a : Nat, (a < 161 ∨ 176 < a) → w2 a = w1 a := fun a ha => (f2 a ha).trans (z_zf_out (by omega))
  have o1 : ∀ a : Nat, 161 ≤ a → w1 a = w a := fun a ha => (f1 a ha).trans (z_zf_out (by omega))
  have X : ∀ a : Nat, 176 < a → w2 a = w a := fun a ha => (o2 a (Or.inr ha)).trans (o1 a (by omega))
  have jc : z_JC w1 (z_ini 100) [] (0, fun _ => 0) (-2) (fun _ => none) := ⟨c1, c2, c3, c4, c5⟩
  have jm : z_JM w2 (z_ini 100) [] (0, fun _ => 0) (-2) (fun _ => none) := ⟨m1, m2, m3, m4⟩
  exact z_loops (X := w 1000) (n := w 1001 0) (fun j => hR 1000 j) (by decide) h3 hq _ 0 w2 (Nat.le_refl _) (Int.le_refl _) (by omega) ⟨_, _, _, _, _, jc.fr (fun a ha _ => o2 a (by omega)), jm, X 1000 (by decide), by rw [X 1001 (by decide)]⟩
theorem z_less {s : State} {pl : Platform} (h : s.hasRoom pl room_1 = true) : s.hasRoom pl mLw.2.2.2.2 = true := by
  simp only [State.hasRoom, Bool.and_eq_true, decide_eq_true_eq] at h ⊢
  obtain ⟨⟨⟨⟨h1, h2⟩, h3⟩, h4⟩, h5⟩ := h
  refine ⟨⟨⟨⟨h1, h2⟩, ?_⟩, h4⟩, h5⟩
  have h6 : s.heap.size + 600000 ≤ pl.maxCells := h3
  show s.heap.size + 177 ≤ pl.maxCells
  omega
theorem whole_start {p : Program} {e : Env} {s : State} {m : MethodId} {below : List Frame} {meth : Method} {c : Code} (l : Launch) (hflags : l.flags = flags0) {b L : Nat} {xs : Nat → Int32} (hL : L ≤ 3072) (C0 : lw_At p s m meth c b L xs) : W p l e room_1 s m #[Value.ref b] below meth c s.heap [] 0 0 (lw_Z below #[Value.ref b] s) (entryFrame m ([Value.ref b] : List Value).toArray 8) := by
  obtain ⟨hx, hb, hr, hml, hown, hts0, hXs, hbl, hlk, hgv⟩ := C0
  have hts : ∀ w ∈ z_tb, w.before #[Value.ref b] s = true := fun w hw => hts0 w (List.mem_filter.mp hw).1
  have hs : ∀ q ∈ z_gv, q.before #[Value.ref b] s = true := flat_of_before _ hgv
  have hA : ∀ a : Nat, a < s.heap.size → ¬ (fun q => s.heap.size ≤ q) a := fun a ha h => absurd ha (Nat.not_lt.mpr h)
  obtain ⟨ad, had⟩ := z_strs (A := fun q => s.heap.size ≤ q) hs hA
  obtain ⟨D, hD⟩ := z_clss hts
  obtain ⟨cI, aI, rI⟩ := z_ary .int (hts _ z_awi) (fun C h => by cases h)
  obtain ⟨cZ, aZ, rZ⟩ := z_ary .boolean (hts _ z_awz) (fun C h => by cases h)
  obtain ⟨cB, aB, rB⟩ := z_ary .byte (hts _ z_awb) (fun C h => by cases h)
  have hao : (Cond.arrayOver (.object "TimeGaps$Plan")).before #[Value.ref b] s = true := hts0 _ (List.mem_of_getElem? (i := 333) (by decide +kernel))
  obtain ⟨cP, aP, rP⟩ := z_aro "TimeGaps$Plan" hao
  have hG : ∃ G : z_G, G = (D, (fun k => match k with | 0 => cI | 1 => cZ | 2 => cB | _ => cP), s.heap.size, (fun q => if q = 0 then b else if q < 101 then (ad (q - 1)).1 else (ad (q - 101)).2), L, xs) := ⟨_, rfl⟩
  obtain ⟨G, eG⟩ := hG
  have g1 : G.1 = D := by rw [eG]
  have g3 : G.2.2.1 = s.heap.size := by rw [eG]
  have g40 : G.2.2.2.1 0 = b := by rw [eG]; rfl
  have g4a : ∀ i : Nat, i < 23 → G.2.2.2.1 (1 + i) = (ad i).1 := fun i hi => by
    rw [eG]
    show (if 1 + i = 0 then b else if 1 + i < 101 then (ad (1 + i - 1)).1 else _) = _
    rw [if_neg (by omega), if_pos (by omega), show 1 + i - 1 = i by omega]
  have g4b : ∀ i : Nat, i < 23 → G.2.2.2.1 (101 + i) = (ad i).2 := fun i hi => by
    rw [eG]
    show (if 101 + i = 0 then b else if 101 + i < 101 then _ else (ad (101 + i - 101)).2) = _
    rw [if_neg (by omega), if_neg (by omega), show 101 + i - 101 = i by omega]
  have g5 : G.2.2.2.2.1 = L := by rw [eG]
  have g6 : G.2.2.2.2.2 = xs := by rw [eG]
  have hK : va_K G.1 vwCl (z_tys G) s := by
    refine ⟨by rw [g1]; exact hD, fun k q hq => ?_⟩
    have hk : k < 4 := (List.getElem?_eq_some_iff.mp hq).1
    rcases (show k = 0 ∨ k = 1 ∨ k = 2 ∨ k = 3 by omega) with rfl | rfl | rfl | rfl
    · obtain rfl : (G.2.1 0, FieldType.int) = q := Option.some.inj hq
      rw [eG]; exact ⟨aI, rI⟩
    · obtain rfl : (G.2.1 1, FieldType.boolean) = q := Option.some.inj hq
      rw [eG]; exact ⟨aZ, rZ⟩
    · obtain rfl : (G.2.1 2, FieldType.byte) = q := Option.some.inj hq
      rw [eG]; exact ⟨aB, rB⟩
    · obtain rfl : (G.2.1 3, FieldType.object "TimeGaps$Plan") = q := Option.some.inj hq
      rw [eG]; exact ⟨aP, rP⟩
  have hO : z_O G s s.heap := by
    unfold z_O
    rw [g40, g5, g6, g3]
    refine ⟨⟨hXs, by omega⟩, fun i hi => ?_, fun i q hq => ?_, ?_, ⟨?_, va_AO.of hao⟩, fun w hw => ?_⟩
    · rw [g4a i hi, g4b i hi]
      exact (had i hi).2
    · have hi : i < 23 := (List.getElem?_eq_some_iff.mp hq).1
      rw [g4a i hi]
      have e : z_sl.getD i ("", 0, "") = q := by rw [List.getD_eq_getElem?_getD, hq]; rfl
      have h1 := hts0 _ (z_g6 i hi)
      have h2 := (had i hi).1
      unfold z_stm at h2
      rw [e] at h1 h2
      exact vk_R.of h1 h2
    · exact va_Zof (hts0 _ (by decide +kernel)) (hts0 _ (List.mem_of_getElem? (i := 186) (by decide +kernel))) (va_eqt (hs (Cond.eq (.static "java/lang/String" "COMPACT_STRINGS" "Z") (.int 1)) (by decide +kernel))) hA
    · exact va_Zqof (hts0 _ (by decide +kernel)) (hts0 _ (List.mem_of_getElem? (i := 188) (by decide +kernel))) (hs _ (by decide +kernel)) hA
    · exact va_Nw.of (z_nstT hw) (hts0 w (List.mem_filter.mp hw).1)
  have hX : z_X G mLw 0 p s m #[Value.ref b] meth c := ⟨hx, hb, hr, hml, hown, hts, hlk, fun h => absurd h (by decide), hK, hO, by rw [g3]; exact Nat.le_refl _, by rw [g3]; exact Nat.le_refl _⟩
  have hZ : z_Z G mLw 0 p l e s m #[Value.ref b] below meth c (lw_Z below #[Value.ref b] s) (fun v _ => v = some (z_i 1)) := by
    intro v σ' H' locs' z' pc ls' ins hQ hP hv hlen hz hrk hd
    subst hQ
    obtain ⟨rfl, -⟩ := hrk
    refine W.widen (k := 600000) (n := 7302250) (by decide) hz ?_
    refine va_forget (fun q hq => by have := hP.2.2.2 q hq; rw [g3] at this; exact this) ?_
    exact W.base (z_lret (Drawn.sameBut.refl s.drawn lw_cs) hx hb hr hlk hd)
  have hw : ∃ w : z_Mm, w = fun a j => if a = 1000 then (if 0 ≤ j ∧ j < (L : Int) then (xs j.toNat).toInt else 0) else if a = 1001 then (L : Int) else 0 := ⟨_, rfl⟩
  obtain ⟨w, ew⟩ := hw
  have w1 : w 1001 0 = (L : Int) := by rw [ew]; rfl
  have hP0 : z_P0 G ([], w) s.heap := by
    refine ⟨(fun k q hq => by cases hq), Nat.zero_le _, fun a i => ?_, fun j hj => ?_, by rw [g5]; exact w1⟩
    · rw [ew]
      show z_R (if a = 1000 then (if 0 ≤ i ∧ i < (L : Int) then (xs i.toNat).toInt else 0) else if a = 1001 then (L : Int) else 0)
      split
      · split
        · exact z_Rto _
        · exact z_zero
      · split
        · constructor <;> omega
        · exact z_zero
    · rw [g5] at hj
      rw [g6, ew]
      show (if (1000 : Nat) = 1000 then (if 0 ≤ (j : Int) ∧ (j : Int) < (L : Int) then (xs (j : Int).toNat).toInt else 0) else if (1000 : Nat) = 1001 then (L : Int) else 0) = (xs j).toInt
      rw [if_pos rfl, if_pos ⟨by omega, by omega⟩, Int.toNat_natCast]
  have hP : z_P G ([], w) s s.heap [] := ⟨hP0, va_S.rf⟩
  have hl := lv_entry ([.ref b]) (n := 8) (Nat.le_of_ble_eq_true rfl)
  rw [lg_entry_eq]
  generalize (lg_sl ([.ref b]) ++ List.replicate (8 - (lg_sl ([.ref b])).length) Slot.unset).toArray = ls at hl ⊢
  have hl' : lv_has ls 8 (z_lo G [(0, z_r 1000)]) := by
    have e : z_lo G [(0, z_r 1000)] = [(0, .ref b)] := by
      show [(0, Value.ref (z_ad G (1000 + 0)))] = _
      rw [z_ad_old, g40]
    rw [e]
    exact hl
  have main := z_lawAll (Q := fun v _ => v = some (z_i 1)) (w := w) ⟨by rw [w1]; omega, by rw [w1]; omega⟩ (fun _ => rfl) G p l e s m #[Value.ref b] below meth c (lw_Z below #[Value.ref b] s) s.heap [] ls hX hZ hP (fun q hq => by rw [List.mem_singleton.mp hq]; trivial) (fun q hq => by cases hq) hl' ⟨Nat.le_refl _, Nat.zero_le _, Nat.zero_le _⟩
  intro T hT X
  have hroom : s.hasRoom e.platform mLw.2.2.2.2 = true := z_less X.room
  exact main T hT ⟨X.admits, X.cas, X.clock, X.frames, hroom, X.hears, X.method, X.code, X.here, X.tail, X.warmed, X.limits, X.bytes, X.same⟩
set_option maxHeartbeats 4000000 in
theorem lw_walk (l : Launch) (hflags : l.flags = flags0) (b : Addr) (xs : List Int32) : MetFree l x (headSpec (Jvm.Cond.code x code maxLocals ret :: tables_1) room_1) (lw_P b xs) (fun _ _ _ _ _ => True) lw_Q := by
  refine MetFree.of_bodyS (code := code) (maxLocals := maxLocals) (ret := ret) (by decide) ?_ ?_
  · intro args s m h hn
    obtain ⟨meth, c, h1, h2, h3, h4, h5, h6, -, -⟩ := Cond.code_spec hn (atoms_spec (ws := Jvm.Cond.code x code maxLocals ret :: tables_1) h _ List.mem_cons_self)
    exact ⟨meth, c, h1, h2, h3, h4, h5, h6⟩
  · intro p e s m args below meth c s₁ B hml0 hP _
    obtain ⟨rfl, hx, hbd, hgv⟩ := hP
    obtain ⟨scr, harrAt, hlist, hof, hsmall⟩ := hx
    obtain ⟨hcb, hkn, -, -⟩ := State.arrayAt?_spec harrAt
    have hown : s.vm.findClass R_law = some m.cls := findClass_of_methodNamed B.named
    have hts0 : ∀ c ∈ (Jvm.Cond.code x code maxLocals ret :: tables_1), c.before #[Value.ref b] s = true := atoms_spec (ws := Jvm.Cond.code x code maxLocals ret :: tables_1) B.pre
    have hts : ∀ w ∈ lw_tbl, w.before #[Value.ref b] s = true := k2_hts_sels lw_privs (fun w hw => hts0 w (List.mem_cons_of_mem _ hw)) lw_privs_ok
    have hml : c.maxLocals = 8 := B.maxLocals_eq (hts0 _ List.mem_cons_self)
    have X₀ : Stand p l e room_1 s m #[Value.ref b] below meth c s₁ [] 0 0 := Stand.of_body B
    have hh0 : s₁.heap = s.heap := by rw [B.state]; rfl
    have hsz : scr.slots.size = xs.length := by rw [← Array.length_toList, hlist, List.length_map]
    have hval : ∀ j : Nat, j < xs.length → scr.slots[j]? = some (.int (xs.getD j 0)) := fun j hj => by
      rw [← Array.getElem?_toList, hlist]
      simp [hj]
    have hbl : b < s.heap.size := (Array.getElem?_eq_some_iff.mp hcb).1
    have hX : va_X b xs.length (fun j => xs.getD j 0) s s.heap := ⟨scr, hcb, hof, hkn, hsz, hval⟩
    have K : W p l e room_1 s m #[Value.ref b] below meth c s₁.heap [] 0 0 (lw_Z below #[Value.ref b] s) (entryFrame m ([Value.ref b] : List Value).toArray 8) := by
      rw [hh0]
      exact whole_start l hflags hbd ⟨B.exec, B.bytes, B.returns, hml, hown, hts, hX, hbl, B.notSynchronized, hgv⟩
    obtain ⟨t, a1, o, b1, b2, b3⟩ := K s₁ rfl X₀
    exact ⟨t, o, a1, b1, b2, b3⟩
theorem lw_pre_spec {args : Array Value} {s : State} (h : (Jvm.Cond.and given_1 narrow_1).before args s = true) (hr : rest_1_c.before args s = true) : ∃ (b : Addr) (xs : List Int32), lw_P b xs args s := by
  have hs := flat_of_before _ h
  have hq := flat_of_before _ hr
  have hc : (Cond.count 1).before args s = true := hs _ (by decide +kernel)
  have harr : (Cond.arrayOf (.arg 0) .int).before args s = true := hs _ (by decide +kernel)
  have hle : (Cond.le (.length (.arg 0)) (.int 3072)).before args s = true := hs _ (by decide +kernel)
  have hlen : (Cond.isInt (.length (.arg 0))).before args s = true := hq _ (by decide +kernel)
  have hall : (Cond.all (.arg 0) (.isInt (.elem (.arg 0) (.index 0)))).before args s = true := hq _ (by decide +kernel)
  obtain ⟨b, xs, hb, hx⟩ := State.ints_of_pre rfl harr hlen hall
  have hsm : xs.length < 2 ^ 31 := hx.choose_spec.2.2.2
  have hev : (Term.length (.arg 0)).eval args s none [] s = some (.int xs.length.toInt32) := hx.length_eval hb
  have hv := Cond.le_ints hev (show (Term.int 3072).eval args s none [] s = some (.int 3072) from rfl)
  have hd : xs.length.toInt32 ≤ 3072 := by
    simpa [Cond.before, Cond.holds, hv] using hle
  have hN : xs.length ≤ 3072 := (Int32.ofNat_le_ofNat hsm (by decide)).mp (show Int32.ofNat xs.length ≤ Int32.ofNat 3072 from hd)
  exact ⟨b, xs, Cond.one_arg hc (show args[0]? = some (.ref b) from hb), hx, hN, h⟩
theorem lw_comes (l : Launch) (hflags : l.flags = flags0) : Comes l x (Jvm.Cond.code x code maxLocals ret :: tables_1) room_1 (fun tb e args s => Calls_1 tb e args s ∧ rest_1 tb e args s ∧ Pre_1 tb e args s)
    (fun _ _ args s o t => lw_Q args s o t) := by
  intro p e ha hc hk s m args below hf hfit hheap happ hpre
  obtain ⟨b, xs, hP⟩ := lw_pre_spec hpre.2.2 hpre.2.1
  obtain ⟨k, o, h1, h2, h3, hQ⟩ := lw_walk l hflags b xs p e ha hc hk s m args below hf ((Spec.applies_iff_loose hf).mp happ).1 hP trivial
  exact ⟨k, o, h1, h2, h3, hQ⟩
theorem lw_frame {s t : State} {o : Outcome} {args : Array Value} (h : State.butDraws s t lw_cs (fun t1 => Framed s o t1 [] 600000 7302250)) :
    State.butDraws s t [Jvm.Choice.named "NaN.bits"] (fun t1 => Framed s o t1 (fieldLocs frame_1_writes args s ++ arrayLocs frame_1_arrays args s ++ staticLocs frame_1_statics s) 600000 7302250) := h
theorem lw_limb (L : Cond) (hL : ∀ (args : Array Value) (s t : State), L.after args s (.returned (some (.int 1))) t = true) :
    ArmFor flags0 classFile x code maxLocals ret World_1 tables_1 room_1 Calls_1 rest_1 Pre_1
      (fun tb e a s o t => postC L tb e a s o t ∧ State.butDraws s t [Jvm.Choice.named "NaN.bits"] (fun t1 => Framed s o t1 (fieldLocs frame_1_writes a s ++ arrayLocs frame_1_arrays a s ++ staticLocs frame_1_statics s) 600000 7302250)) := by
  intro l hflags _ _ p e ha hc hk s m args below hf hfit hheap happ hpre
  obtain ⟨k, o, h1, h2, h3, rfl, hF⟩ := lw_comes l hflags p e ha hc hk s m args below hf hfit hheap happ hpre
  exact ⟨k, _, h1, h2, h3, hL args s _, lw_frame hF⟩
theorem i_vc : Claimed_1_1 ∧ Claimed_1_2 := ⟨lw_limb limb_1_1 (fun args s t => by simp [limb_1_1, Cond.after, Cond.holds, Cond.value]), lw_limb limb_1_2 (fun args s t => Cond.after_iff.mpr (by
  first | (rw [show limb_1_2 = Cond.eq .result (.int 1) from rfl, Cond.eq_ints (x := 1) (y := 1) rfl rfl]; simp; done) | (simp [limb_1_2, Cond.value, Term.eval]; done)))⟩
