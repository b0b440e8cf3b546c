/-! CALLS: a point at a method's first instruction gives a contract ('Met'), a contract is called. -/
def z_c1 : z_V → Prop
  | .inr (.inr (.inl _)) => False
  | .inr (.inr (.inr (.inl _))) => False
  | _ => True
def z_la : Nat → List z_V → List (Nat × z_V)
  | _, [] => []
  | i, v :: vs => (i, v) :: z_la (i + 1) vs
theorem z_la_args (G : z_G) : ∀ (vs : List z_V) (i : Nat), (∀ v ∈ vs, z_c1 v) → lv_args i (vs.map (z_cv G)) = z_lo G (z_la i vs)
  | [], _, _ => rfl
  | v :: vs, i, h => by
    have h1 : (z_cv G v).category ≠ 2 := by
      have := h v List.mem_cons_self
      rcases v with x | x | x | x | (_ | x) <;> first | exact False.elim this | (intro q; cases q)
    simp only [List.map_cons, lv_args, z_la, z_lo, if_neg h1]
    congr 1
    exact z_la_args G vs (i + 1) (fun q hq => h q (List.mem_cons_of_mem _ hq))
theorem z_sl_len (G : z_G) : ∀ (vs : List z_V), (∀ v ∈ vs, z_c1 v) → (lg_sl (vs.map (z_cv G))).length = vs.length
  | [], _ => rfl
  | v :: vs, h => by
    have h1 : (z_cv G v).category ≠ 2 := by
      have := h v List.mem_cons_self
      rcases v with x | x | x | x | (_ | x) <;> first | exact False.elim this | (intro q; cases q)
    have ih := z_sl_len G vs (fun q hq => h q (List.mem_cons_of_mem _ hq))
    simp only [lg_sl, List.map_cons, List.flatMap_cons, if_neg h1, List.length_append, List.length_cons, List.length_nil] at ih ⊢
    omega
theorem z_la_mem : ∀ (vs : List z_V) (i : Nat), ∀ q ∈ z_la i vs, q.2 ∈ vs
  | [], _, q, h => by cases h
  | v :: vs, i, q, h => by
    rcases List.mem_cons.mp h with rfl | h
    · exact List.mem_cons_self
    · exact List.mem_cons_of_mem _ (z_la_mem vs (i + 1) q h)
/-- the words that a method is handed -/
def z_wd (M : z_M) : List Cond := Cond.code M.1 M.2.1 M.2.2.1 M.2.2.2.1 :: z_tb
def z_Pc (G : z_G) (σ : z_S) (vs : List z_V) : Array Value → State → Prop := fun a U =>
  a = (vs.map (z_cv G)).toArray ∧ va_K G.1 z_Cl (z_tys G) U ∧ z_O G U U.heap ∧ (∀ q : Nat, U.heap.size ≤ q → G.2.2.1 q) ∧ z_P0 G σ U.heap
def z_Qc (G : z_G) (c0 n0 : Nat) (Q : Option z_V → z_S → Prop) : Array Value → State → Outcome → State → Prop := fun _ st oc t =>
  (∃ (G' : z_G) (v : Option z_V) (σ' : z_S), z_ag c0 n0 G G' ∧ oc = .returned (v.map (z_cv G')) ∧ Q v σ' ∧ (∀ x, v = some x → z_Rv x) ∧ n0 ≤ σ'.1.length ∧ z_P0 G' σ' t.heap) ∧ va_F G.2.2.1 st t
theorem z_blind (G : z_G) (σ : z_S) (vs : List z_V) : FrameBlind (z_Pc G σ vs) := by
  intro a U g mk h
  obtain ⟨h1, h2, h3, h4, h5⟩ := h
  exact ⟨h1, va_K.moved (u := U) (U := U.calling g mk a) (Vm.Alike.refl U.vm) h2, z_O.same (u := U) (U := U.calling g mk a) rfl h3, h4, h5⟩
theorem z_retW {G : z_G} {M : z_M} {n0 : Nat} {p : Program} {l : Launch} {e : Env} {s : State} {m : MethodId} {args : Array Value} {below : List Frame} {meth : Method} {c : Code} {Q : Option z_V → z_S → Prop} (hX : z_X G M n0 p s m args meth c) : z_Z G M n0 p l e s m args below meth c (MQ below (z_Qc G M.2.2.2.2.cells n0 Q) args s M.2.2.2.2.cells M.2.2.2.2.slots G.2.2.1) Q := by
  intro G' v σ' H' locs' z' pc ls' ins hag hQ hP hv hlen hz hr hd
  have hown : G'.2.2.1 = G.2.2.1 := by obtain ⟨f, rfl, -⟩ := hag; rfl
  have hP2 := hP.2
  rw [hown] at hP2
  have hq : ∀ (t : State), t.heap = H' → z_Qc G M.2.2.2.2.cells n0 Q args s (.returned (v.map (z_cv G'))) t := fun t ht => ⟨⟨G', v, σ', hag, rfl, hQ, hv, hlen, by rw [ht]; exact hP.1⟩, by rw [va_F, ht]; exact ⟨hP2.1, hP2.2.1⟩⟩
  refine W.widen hz.1 hz.2 ?_
  have hrt := hX.2.2.1
  have hlk := hX.2.2.2.2.2.2.1
  rcases v with _ | x | x | x | x | x
  · obtain ⟨h1, rfl⟩ := hr
    exact W.vret hX.1 hX.2.1 (hrt.trans h1) (fun t ht _ => hq t ht) hP2.2.2 hd hlk
  · obtain ⟨rfl, h1 | ⟨h1, h2⟩ | ⟨h1, h2⟩ | ⟨h1, h2⟩⟩ := hr
    · exact W.iret hX.1 hX.2.1 (hrt.trans h1) (fun t ht _ => hq t ht) hP2.2.2 hd hlk
    · exact W.zret hX.1 hX.2.1 (hrt.trans h1) (by rcases z_01 h2 with rfl | rfl <;> decide) (fun t ht _ => hq t ht) hP2.2.2 hd hlk
    · have hx : z_R x := ⟨by omega, by omega⟩
      refine W.zret hX.1 hX.2.1 (hrt.trans h1) ?_ (fun t ht _ => hq t ht) hP2.2.2 hd hlk
      show Value.int _ = Value.int _
      congr 1
      apply Int32.toInt_inj.mp
      have e : (Int32.ofInt x).toUInt32.toNat = x.toNat := by
        have h3 := z_toInt hx
        have h4 : (Int32.ofInt x).toInt = ((Int32.ofInt x).toUInt32.toNat : Int) := by
          have := Int32.toInt_toBitVec (Int32.ofInt x)
          rw [← this, BitVec.toInt_eq_toNat_of_lt]
          · rfl
          · rw [← Int32.toInt_toBitVec, BitVec.toInt] at h3
            have := (Int32.ofInt x).toBitVec.isLt
            split at h3 <;> omega
        omega
      have e2 : (Int32.ofInt x).toUInt32.toUInt16.toUInt32 = (Int32.ofInt x).toUInt32 := by
        apply UInt32.toNat_inj.mp
        rw [UInt16.toNat_toUInt32, UInt32.toNat_toUInt16, e]
        exact Nat.mod_eq_of_lt (by show x.toNat < 2 ^ 16; omega)
      rw [e2]
      simp
    · have hx : z_R x := ⟨by omega, by omega⟩
      refine W.zret hX.1 hX.2.1 (hrt.trans h1) ?_ (fun t ht _ => hq t ht) hP2.2.2 hd hlk
      show Value.int (Int32.ofInt x).toInt8.toInt32 = Value.int _
      congr 1
      apply Int32.toInt_inj.mp
      rw [z_toInt hx]
      simp
      rw [show Int8.size = 256 from rfl]
      exact Int.bmod_eq_of_le (by omega) (by omega)
  · obtain ⟨rfl, t0, h1, h2⟩ := hr
    exact W.aret hX.1 hX.2.1 (hrt.trans h1) h2 (Or.inr ⟨_, rfl⟩) (fun t ht _ => hq t ht) hP2.2.2 hd hlk
  · obtain ⟨rfl, h1⟩ := hr
    exact W.fret hX.1 hX.2.1 (hrt.trans h1) (fun t ht _ => hq t ht) hP2.2.2 hd hlk
  · obtain ⟨rfl, h1⟩ := hr
    exact W.dret hX.1 hX.2.1 (hrt.trans h1) (fun t ht _ => hq t ht) hP2.2.2 hd hlk
  · exact hr.elim
theorem z_met {M : z_M} {vs : List z_V} {σ : z_S} {Q : Option z_V → z_S → Prop} (h : z_Sem M (σ.1.length, 0) 0 (z_la 0 vs) [] σ Q) (hy : plainFor M.1 = true) (h1 : ∀ v ∈ vs, z_c1 v) (h2 : vs.length ≤ M.2.2.1) (hr : ∀ v ∈ vs, z_Rv v) (l : Launch) (G : z_G) :
    Met l M.1 (z_wd M) M.2.2.2.2 (z_Pc G σ vs) (z_Qc G M.2.2.2.2.cells σ.1.length Q) M.2.2.2.2.cells M.2.2.2.2.slots G.2.2.1 := by
  refine va_MetF (cc := M.2.1) (maxL := M.2.2.1) (ret := M.2.2.2.1) hy rfl ?_
  intro p e s m args below meth c s₁ B hml hv
  obtain ⟨rfl, hK, hO, hb1, hP⟩ := hv
  have hts := atoms_spec (ws := z_wd M) B.pre
  have hX : z_X G M σ.1.length p s m (vs.map (z_cv G)).toArray meth c := ⟨B.exec, B.bytes, B.returns, hml, findClass_of_methodNamed B.named, fun w hw => hts w (List.mem_cons_of_mem _ hw), B.notSynchronized, fun hi => by rw [(name_of_methodNamed B.named B.method).1]; exact hi, hK, hO, hb1⟩
  have hl := lv_entry (vs.map (z_cv G)) (n := M.2.2.1) (by rw [z_sl_len G vs h1]; exact h2)
  rw [lg_entry_eq]
  generalize (lg_sl (vs.map (z_cv G)) ++ List.replicate (M.2.2.1 - (lg_sl (vs.map (z_cv G))).length) Slot.unset).toArray = ls at hl ⊢
  rw [z_la_args G vs 0 h1] at hl
  exact h G p l e s m _ below meth c _ s.heap [] ls hX (z_retW hX) ⟨hP, va_S.rf⟩ (fun q hq => hr _ (z_la_mem vs 0 q hq)) (fun q hq => by cases hq) hl ⟨Nat.le_refl _, Nat.zero_le _, Nat.zero_le _⟩
section ZCALL
variable {p : Program} {l : Launch} {e : Env} {R : Room} {s : State} {m : MethodId} {args : Array Value} {below : List Frame} {meth : Method} {c : Code} {H : Heap} {locs : List Loc} {cells slots mc ms : Nat} {Z : State → Prop}
theorem z_after {G : z_G} {A : Nat → Prop} {c0 n0 pc : Nat} {ls : Array Slot} {rest st0 : List Value} {a : Array Value} {Q' : Option z_V → z_S → Prop} (hr : va_Run p l e R s m args below meth c H locs cells slots mc ms (F0 m pc ls st0) rest (z_Qc G c0 n0 Q' a) G.2.2.1) (hS : va_S A s.heap H locs) (hsub : ∀ q, G.2.2.1 q → A q)
    (kk : ∀ (G' : z_G) (v : Option z_V) (σ' : z_S) (H1 : Heap) (locs1 : List Loc), z_ag c0 n0 G G' → Q' v σ' → (∀ x, v = some x → z_Rv x) → n0 ≤ σ'.1.length → z_P0 G' σ' H1 → (∀ q : Nat, q < H.size → ¬ G.2.2.1 q → H1[q]? = H[q]?) → H.size ≤ H1.size → va_S A s.heap H1 locs1 → W p l e R s m args below meth c H1 locs1 (cells + mc) (slots + ms) Z (F0 m (pc + 3) ls ((v.map (z_cv G')).toList ++ rest))) : W p l e R s m args below meth c H locs cells slots Z (F0 m pc ls st0) := by
  intro T hT X
  obtain ⟨v, st₀, t, T', L, h0, X', hL, e1, e2, ⟨⟨G', v', σ', hag, hv, hp, hrg, hn, hb⟩, hz, hk⟩, st⟩ := hr T hT X
  cases hv
  rw [h0] at hz hk
  obtain ⟨t2, a1, b1⟩ := kk G' v' σ' T'.heap (locs ++ L) hag hp hrg hn (by rw [e1]; exact hb) (fun q h1 h2 => by rw [e1]; exact hk q h1 h2) (by rw [e1]; exact hz) ⟨Nat.le_trans hS.1 (by rw [e1]; exact hz), fun q h1 h2 => by rw [e1, hk q (Nat.lt_of_lt_of_le h1 hS.1) (fun h3 => h2 (hsub q h3))]; exact hS.2.1 q h1 h2, fun q hq => by
      rcases List.mem_append.mp hq with h | h
      · exact hS.2.2 q h
      · exact hsub _ (hL q h)⟩ T' rfl X'
  exact ⟨t2, st t2 a1, b1⟩
end ZCALL
/-- a callee that a table row speaks of: its words, how many arguments (without the receiver) -/
def z_me (M : z_M) (n : Nat) : Prop := Cond.code M.1 M.2.1 M.2.2.1 M.2.2.2.1 ∈ z_tb ∧ Cond.initialized M.1.cls ∈ z_tb ∧ (M.1.cls ≠ "java/lang/invoke/MethodHandle" ∧ M.1.cls ≠ "java/lang/invoke/VarHandle") ∧ (parseMethodDescriptor M.1.desc).map (fun d => d.parameters.length) = some n ∧ plainFor M.1 = true
/-- the room that a call wants -/
abbrev z_rm (M M' : z_M) : Prop := M'.2.2.2.2.frames + 1 ≤ M.2.2.2.2.frames ∧ 8 + (M'.2.2.1 + 11) + M'.2.2.2.2.locals ≤ M.2.2.2.2.locals
def z_wds (st : List z_V) : Nat := (st.map fun v => if z_c2 v then 2 else 1).sum
theorem z_wds_cat (G : z_G) (st : List z_V) : ((st.map (z_cv G)).map fun v => v.category).sum = z_wds st := by
  unfold z_wds
  rw [List.map_map]
  congr 1
  apply List.map_congr_left
  intro v _
  rcases v with x | x | x | x | (_ | x) <;> rfl
theorem z_pre {G : z_G} {M : z_M} {n0 : Nat} {p : Program} {s : State} {m : MethodId} {args : Array Value} {meth : Method} {c : Code} {H : Heap} {locs : List Loc} {σ : z_S} (hX : z_X G M n0 p s m args meth c) (hP : z_P G σ s H locs) (vs : List z_V) (U : State) (hU : U.heap = H) (hW : s.WarmedH U.vm) : z_Pc G σ vs (vs.map (z_cv G)).toArray U := by
  obtain ⟨-, -, -, -, -, -, -, -, hK, hO, hb⟩ := hX
  refine ⟨rfl, va_K.moved hW.alike hK, z_O.moved hW (by rw [hU]; exact hO.kept (fun a h1 h2 => hP.2.2.1 a h1 h2)), ?_, by rw [hU]; exact hP.1⟩
  rw [hU]
  exact fun q hq => hb q (Nat.le_trans hP.2.1 hq)
theorem z_words {M' : z_M} {n : Nat} {args : Array Value} {s : State} (hts : ∀ w ∈ z_tb, w.before args s = true) (hme : z_me M' n) : ∀ w ∈ z_wd M', ∀ (a' : Array Value) (U : State), s.WarmedH U.vm → w.before a' U = true := by
  intro w hw a' U hW
  have hm : w ∈ z_tb := by
    rcases List.mem_cons.mp hw with rfl | h
    · exact hme.1
    · exact h
  exact word_at hW (good_of_word (z_tb_good w hm)) (hts w hm)
/-! A CALL, whatever its kind: from a state of M at pc with the arguments on the stack the callee's contract runs -/
def z_inv (M M' : z_M) (pc : Nat) (vs : List z_V) (rec : z_G → State → Heap → Prop) : Prop :=
  ∀ (G : z_G) (n0 : Nat) (p : Program) (l : Launch) (e : Env) (s : State) (m : MethodId) (args : Array Value) (below : List Frame) (meth : Method) (c : Code) (H : Heap) (locs : List Loc) (cells slots : Nat) (ls : Array Slot) (rest : List z_V) (Pc : Array Value → State → Prop) (Qc : Array Value → State → Outcome → State → Prop) (free : Addr → Prop),
    z_X G M n0 p s m args meth c → rec G s H → Met l M'.1 (z_wd M') M'.2.2.2.2 Pc Qc M'.2.2.2.2.cells M'.2.2.2.2.slots free → FrameBlind Pc → (∀ U : State, U.heap = H → s.WarmedH U.vm → Pc (vs.map (z_cv G)).toArray U) → ls.size = M.2.2.1 → z_wds rest ≤ 8 → cells + M'.2.2.2.2.cells ≤ M.2.2.2.2.cells ∧ slots + M'.2.2.2.2.slots ≤ M.2.2.2.2.slots →
    va_Run p l e M.2.2.2.2 s m args below meth c H locs cells slots M'.2.2.2.2.cells M'.2.2.2.2.slots (F0 m pc ls ((vs.reverse ++ rest).map (z_cv G))) (rest.map (z_cv G)) (Qc (vs.map (z_cv G)).toArray) free
/-- the receiver is of a class -/
def z_rec (C : String) (a : Nat) (G : z_G) (s : State) (H : Heap) : Prop := ∃ cell : Cell, H[z_ad G a]? = some cell ∧ cell.vm.isStatics = false ∧ s.vm.findClass C = some cell.cls
def z_rcT (_ : z_G) (_ : State) (_ : Heap) : Prop := True
abbrev z_lk (own : String) (idx : Nat) (M' : z_M) : Prop := Cond.methodLink own idx M'.1 ∈ z_tb ∨ ∃ host : String, Cond.methodLinkNest own idx M'.1 host ∈ z_tn
theorem z_stk (G : z_G) (a : Nat) (As rest : List z_V) : ((z_r a :: As).reverse ++ rest).map (z_cv G) = (As.map (z_cv G)).reverse ++ .ref (z_ad G a) :: rest.map (z_cv G) := by
  rw [List.reverse_cons, List.append_assoc, List.map_append, List.map_reverse]
  rfl
theorem z_sig {M' : z_M} {n : Nat} (hme : z_me M' n) : ∀ sig, parseMethodDescriptor M'.1.desc = some sig → n = sig.parameters.length := fun sig h => by have h9 := hme.2.2.2.1; rw [h] at h9; exact (Option.some.inj h9).symm
theorem z_invV {M M' : z_M} {pc a idx n : Nat} {As : List z_V} {C : String} (hme : z_me M' n) (hin : Cond.instanceMethod M'.1 ∈ z_tb) (hse : Cond.selects C M'.1 M'.1 ∈ z_tb) (hlk : z_lk M.1.cls idx M') (hrm : z_rm M M') (hd : decode M.2.1 pc = .ok (.invokevirtual idx, 3)) (hn : As.length = n) : z_inv M M' pc (z_r a :: As) (z_rec C a) := by
  intro G n0 p l e s m args below meth c H locs cells slots ls rest Pc Qc free hX hrec hM hB hPc hls hw hcc
  have ht := hX.2.2.2.2.2.1
  have hPv : PreV s H C (z_ad G a) Pc (As.map (z_cv G)) := ⟨hB, hrec, hPc⟩
  have hW8 : 2 * (F0 m pc ls (((z_r a :: As).reverse ++ rest).map (z_cv G))).monitorRoom + ((rest.map (z_cv G)).map fun v => v.category).sum ≤ 8 := lv_room (by rw [z_wds_cat]; exact hw)
  rcases hlk with h | ⟨host, h⟩
  · exact va_runV (C := C) ⟨hX.1, hX.2.1, hX.2.2.2.1, hX.2.2.2.2.1, ht⟩ hM ⟨⟨rfl, rfl, hrm.1, hrm.2, z_words ht hme, List.mem_cons_self, ht _ hme.1, ht _ hme.2.1, hme.2.2.1, z_sig hme, ht _ h⟩, ht _ hin, ht _ hse⟩ hPv rfl (by rw [List.length_map]; exact hn) hls (z_stk G a As rest) hW8 hd hcc
  · exact va_runVN (C := C) (host := host) ⟨hX.1, hX.2.1, hX.2.2.2.1, hX.2.2.2.2.1, ht⟩ hM ⟨⟨⟨rfl, rfl, hrm.1, hrm.2, z_words ht hme, List.mem_cons_self⟩, ht _ hme.1, ht _ hme.2.1, hme.2.2.1, z_sig hme, (hX.2.2.2.2.2.2.2.2.2.1.2.2.2.2.2.1 _ h).use rfl⟩, ht _ hin, ht _ hse⟩ hPv rfl (by rw [List.length_map]; exact hn) hls (z_stk G a As rest) hW8 hd hcc
theorem z_invI {M M' : z_M} {pc a idx n : Nat} {As : List z_V} (hme : z_me M' n) (hin : Cond.instanceMethod M'.1 ∈ z_tb) (hini : M'.1.name = "<init>") (hret : M'.2.2.2.1 = none) (hlk : z_lk M.1.cls idx M') (hrm : z_rm M M') (hd : decode M.2.1 pc = .ok (.invokespecial idx, 3)) (hn : As.length = n) : z_inv M M' pc (z_r a :: As) z_rcT := by
  intro G n0 p l e s m args below meth c H locs cells slots ls rest Pc Qc free hX hrec hM hB hPc hls hw hcc
  have ht := hX.2.2.2.2.2.1
  have hPv : PreS s H Pc (.ref (z_ad G a) :: As.map (z_cv G)) := ⟨hB, hPc⟩
  have hW8 : 2 * (F0 m pc ls (((z_r a :: As).reverse ++ rest).map (z_cv G))).monitorRoom + ((rest.map (z_cv G)).map fun v => v.category).sum ≤ 8 := lv_room (by rw [z_wds_cat]; exact hw)
  have hcd : Cond.code M'.1 M'.2.1 M'.2.2.1 none ∈ z_wd M' := by rw [← hret]; exact List.mem_cons_self
  have hcb : (Cond.code M'.1 M'.2.1 M'.2.2.1 none).before args s = true := by rw [← hret]; exact ht _ hme.1
  rcases hlk with h | ⟨host, h⟩
  · exact va_runI ⟨hX.1, hX.2.1, hX.2.2.2.1, hX.2.2.2.2.1, ht⟩ hM ⟨⟨rfl, rfl, hrm.1, hrm.2, z_words ht hme, hcd, hcb, ht _ hme.2.1, hme.2.2.1, z_sig hme, ht _ h⟩, hini, ht _ hin⟩ hPv rfl (by rw [List.length_map]; exact hn) hls (z_stk G a As rest) hW8 hd hcc
  · exact va_runIN (host := host) ⟨hX.1, hX.2.1, hX.2.2.2.1, hX.2.2.2.2.1, ht⟩ hM ⟨⟨⟨rfl, rfl, hrm.1, hrm.2, z_words ht hme, hcd⟩, hcb, ht _ hme.2.1, hme.2.2.1, z_sig hme, (hX.2.2.2.2.2.2.2.2.2.1.2.2.2.2.2.1 _ h).use rfl⟩, hini, ht _ hin⟩ hPv rfl (by rw [List.length_map]; exact hn) hls (z_stk G a As rest) hW8 hd hcc
theorem z_invS {M M' : z_M} {pc idx n : Nat} {As : List z_V} (hme : z_me M' n) (hstt : Cond.static M'.1 ∈ z_tb) (hlk : z_lk M.1.cls idx M') (hrm : z_rm M M') (hd : decode M.2.1 pc = .ok (.invokestatic idx, 3)) (hn : As.length = n) : z_inv M M' pc As z_rcT := by
  intro G n0 p l e s m args below meth c H locs cells slots ls rest Pc Qc free hX hrec hM hB hPc hls hw hcc
  have ht := hX.2.2.2.2.2.1
  have hPv : PreS s H Pc (As.map (z_cv G)) := ⟨hB, hPc⟩
  have hst : (As.reverse ++ rest).map (z_cv G) = (As.map (z_cv G)).reverse ++ rest.map (z_cv G) := by rw [List.map_append, List.map_reverse]
  have hW8 : 2 * (F0 m pc ls ((As.reverse ++ rest).map (z_cv G))).monitorRoom + ((rest.map (z_cv G)).map fun v => v.category).sum ≤ 8 := lv_room (by rw [z_wds_cat]; exact hw)
  rcases hlk with h | ⟨host, h⟩
  · exact va_runS ⟨hX.1, hX.2.1, hX.2.2.2.1, hX.2.2.2.2.1, ht⟩ hM ⟨⟨rfl, rfl, hrm.1, hrm.2, z_words ht hme, List.mem_cons_self, ht _ hme.1, ht _ hme.2.1, hme.2.2.1, z_sig hme, ht _ h⟩, ht _ hstt⟩ hPv rfl (by rw [List.length_map]; exact hn) hls hst hW8 hd hcc
  · exact va_runSN (host := host) ⟨hX.1, hX.2.1, hX.2.2.2.1, hX.2.2.2.2.1, ht⟩ hM ⟨⟨⟨rfl, rfl, hrm.1, hrm.2, z_words ht hme, List.mem_cons_self⟩, ht _ hme.1, ht _ hme.2.1, hme.2.2.1, z_sig hme, (hX.2.2.2.2.2.2.2.2.2.1.2.2.2.2.2.1 _ h).use rfl⟩, ht _ hstt, True.intro⟩ hPv rfl (by rw [List.length_map]; exact hn) hls hst hW8 hd hcc
/-- an inherited method, told by another name -/
theorem z_invU {M M' : z_M} {pc a idx n : Nat} {As : List z_V} {C : String} {x : MethodName} (hme : z_me M' n) (hin : Cond.instanceMethod M'.1 ∈ z_tb) (hsm : Cond.sameMethod x.cls M'.1.cls x.name x.desc ∈ z_tb) (hyx : M'.1 = ⟨M'.1.cls, x.name, x.desc⟩) (hse : Cond.selects C x M'.1 ∈ z_tb) (hlk : Cond.methodLink M.1.cls idx x ∈ z_tb) (hrm : z_rm M M') (hd : decode M.2.1 pc = .ok (.invokevirtual idx, 3)) (hn : As.length = n) : z_inv M M' pc (z_r a :: As) (z_rec C a) := by
  intro G n0 p l e s m args below meth c H locs cells slots ls rest Pc Qc free hX hrec hM hB hPc hls hw hcc
  have ht := hX.2.2.2.2.2.1
  have hPv : PreV s H C (z_ad G a) Pc (As.map (z_cv G)) := ⟨hB, hrec, hPc⟩
  have hW8 : 2 * (F0 m pc ls (((z_r a :: As).reverse ++ rest).map (z_cv G))).monitorRoom + ((rest.map (z_cv G)).map fun v => v.category).sum ≤ 8 := lv_room (by rw [z_wds_cat]; exact hw)
  have hsg : ∀ sig, parseMethodDescriptor x.desc = some sig → n = sig.parameters.length := fun sig h => z_sig hme sig (by rw [hyx]; exact h)
  exact va_runU (C := C) (owner := M'.1.cls) (x := x) ⟨hX.1, hX.2.1, hX.2.2.2.1, hX.2.2.2.2.1, ht⟩ hM ⟨⟨rfl, rfl, hrm.1, hrm.2, z_words ht hme, List.mem_cons_self⟩, ht _ hme.1, ht _ hme.2.1, hme.2.2.1, hsg, ht _ hlk, ht _ hsm, by rw [← hyx]; exact va_Decl.of (ht _ hin) (ht _ hme.1), ht _ hse, ht _ hin⟩ hPv rfl (by rw [List.length_map]; exact hn) hls (z_stk G a As rest) hW8 hd hcc
/-- an overriding method: the reference names another one -/
theorem z_invO {M M' : z_M} {pc a idx n : Nat} {As : List z_V} {C : String} {x : MethodName} {b0 : ByteArray} {m0 : Nat} {r0 : Option FieldType} (hme : z_me M' n) (hin : Cond.instanceMethod M'.1 ∈ z_tb) (hinx : Cond.instanceMethod x ∈ z_tb) (hcx : Cond.code x b0 m0 r0 ∈ z_tb) (hox : x.cls ≠ "java/lang/invoke/MethodHandle" ∧ x.cls ≠ "java/lang/invoke/VarHandle") (hpx : (parseMethodDescriptor x.desc).map (fun d => d.parameters.length) = some n) (hsm : Cond.sameMethod x.cls x.cls x.name x.desc ∈ z_tb) (hse : Cond.selects C x M'.1 ∈ z_tb) (hlk : Cond.methodLink M.1.cls idx x ∈ z_tb) (hrm : z_rm M M') (hd : decode M.2.1 pc = .ok (.invokevirtual idx, 3)) (hn : As.length = n) : z_inv M M' pc (z_r a :: As) (z_rec C a) := by
  intro G n0 p l e s m args below meth c H locs cells slots ls rest Pc Qc free hX hrec hM hB hPc hls hw hcc
  have ht := hX.2.2.2.2.2.1
  have hPv : PreV s H C (z_ad G a) Pc (As.map (z_cv G)) := ⟨hB, hrec, hPc⟩
  have hW8 : 2 * (F0 m pc ls (((z_r a :: As).reverse ++ rest).map (z_cv G))).monitorRoom + ((rest.map (z_cv G)).map fun v => v.category).sum ≤ 8 := lv_room (by rw [z_wds_cat]; exact hw)
  have hsg : ∀ sig, parseMethodDescriptor x.desc = some sig → n = sig.parameters.length := fun sig h => by rw [h] at hpx; exact (Option.some.inj hpx).symm
  exact va_runU (C := C) (owner := x.cls) (x := x) ⟨hX.1, hX.2.1, hX.2.2.2.1, hX.2.2.2.2.1, ht⟩ hM ⟨⟨rfl, rfl, hrm.1, hrm.2, z_words ht hme, List.mem_cons_self⟩, ht _ hme.1, ht _ hme.2.1, hox, hsg, ht _ hlk, ht _ hsm, va_Decl.of (ht _ hinx) (ht _ hcx), ht _ hse, ht _ hin⟩ hPv rfl (by rw [List.length_map]; exact hn) hls (z_stk G a As rest) hW8 hd hcc
/-- a superclass's method -/
theorem z_invSU {M M' : z_M} {pc a idx n ci : Nat} {As : List z_V} {C : String} {T : u_T} {N : Nat} (hc : z_Cl[ci]? = some (C, T, N)) (hme : z_me M' n) (hin : Cond.instanceMethod M'.1 ∈ z_tb) (hsm : Cond.sameMethod M'.1.cls M'.1.cls M'.1.name M'.1.desc ∈ z_tb) (hsu : Cond.superclass M.1.cls M'.1.cls ∈ z_tb) (hno : M'.1.name ≠ "<init>") (hlk : Cond.methodLink M.1.cls idx M'.1 ∈ z_tb) (hrm : z_rm M M') (hd : decode M.2.1 pc = .ok (.invokespecial idx, 3)) (hn : As.length = n) : z_inv M M' pc (z_r a :: As) (z_rec C a) := by
  intro G n0 p l e s m args below meth c H locs cells slots ls rest Pc Qc free hX hrec hM hB hPc hls hw hcc
  have ht := hX.2.2.2.2.2.1
  have hat := (hX.2.2.2.2.2.2.2.2.1.1 ci _ hc).2
  have hPv : PreV s H C (z_ad G a) Pc (As.map (z_cv G)) := ⟨hB, hrec, hPc⟩
  have hW8 : 2 * (F0 m pc ls (((z_r a :: As).reverse ++ rest).map (z_cv G))).monitorRoom + ((rest.map (z_cv G)).map fun v => v.category).sum ≤ 8 := lv_room (by rw [z_wds_cat]; exact hw)
  exact va_runSU hat ⟨hX.1, hX.2.1, hX.2.2.2.1, hX.2.2.2.2.1, ht⟩ hM ⟨⟨rfl, rfl, hrm.1, hrm.2, z_words ht hme, List.mem_cons_self⟩, ht _ hlk, ht _ hsm, ht _ hsu, ht _ hin, ht _ hme.2.1, ht _ hme.1, hno, z_sig hme⟩ hPv rfl (by rw [List.length_map]; exact hn) hls (z_stk G a As rest) hW8 hd hcc
section ZCALL2
variable {M M' : z_M} {nz : Nat × Nat} {pc : Nat} {L : List (Nat × z_V)} {σ : z_S} {Q : Option z_V → z_S → Prop}
theorem z_Rs {vs rest : List z_V} (hS : ∀ q ∈ vs.reverse ++ rest, z_Rv q) : (∀ v ∈ vs, z_Rv v) ∧ ∀ q ∈ rest, z_Rv q := ⟨fun v hv => hS v (List.mem_append_left _ (List.mem_reverse.mpr hv)), fun q hq => hS q (List.mem_append_right _ hq)⟩
/-- a callee that makes nothing, over the same memory -/
theorem z_callN {vs rest st : List z_V} {rec : z_G → State → Heap → Prop} (hi : z_inv M M' pc vs rec) (hp : plainFor M'.1 = true)
    (hrec : ∀ (G : z_G) (p : Program) (s : State) (m : MethodId) (args : Array Value) (meth : Method) (c : Code) (H : Heap) (locs : List Loc), z_X G M nz.1 p s m args meth c → z_P G σ s H locs → rec G s H) (hst : st = vs.reverse ++ rest) (h1 : ∀ v ∈ vs, z_c1 v) (h2 : vs.length ≤ M'.2.2.1) (hw : z_wds rest ≤ 8) (hcc : M'.2.2.2.2.cells = 0 ∧ M'.2.2.2.2.slots = 0)
    (k : z_Sem M' (σ.1.length, 0) 0 (z_la 0 vs) [] σ (fun v σ' => z_Sem M nz (pc + 3) L (v.toList ++ rest) σ' Q)) : z_Sem M nz pc L st σ Q := by
  intro G p l e s m args below meth c Z H locs ls hX hZ hP hL hS hl hc
  subst hst
  obtain ⟨hSA, hSr⟩ := z_Rs hS
  have hM := z_met k hp h1 h2 hSA l G
  have hr := hi G nz.1 p l e s m args below meth c H locs nz.2 nz.2 ls rest _ _ _ hX (hrec G p s m args meth c H locs hX hP) hM (z_blind G σ _) (fun U hU hW => z_pre hX hP vs U hU hW) hl.1 hw (by rw [hcc.1, hcc.2]; exact hc.2)
  refine z_after hr hP.2 (fun q h => h) (fun G' v σ' H1 locs1 hag hQ hv hn hP1 _ _ hS1 => ?_)
  have hG := hag.choose_spec.2.2 hcc.1
  subst hG
  have h9 := hQ G' p l e s m args below meth c Z H1 locs1 ls hX hZ ⟨hP1, hS1⟩ hL (fun q hq => ?_) hl ⟨Nat.le_trans hc.1 hn, hc.2⟩
  · rw [hcc.1, hcc.2]
    rw [show (v.map (z_cv G')).toList ++ rest.map (z_cv G') = (v.toList ++ rest).map (z_cv G') by cases v <;> simp]
    exact h9
  · rcases List.mem_append.mp hq with h | h
    · exact hv q (by cases v with | none => cases h | some x => simp at h; rw [h])
    · exact hSr q h
theorem z_recC {G : z_G} {p : Program} {s : State} {m : MethodId} {args : Array Value} {meth : Method} {c : Code} {H : Heap} {locs : List Loc} {n0 a ci : Nat} {fl : List (Option (Option Nat))} {C : String} {T : u_T} {N : Nat} (hc0 : z_Cl[ci]? = some (C, T, N)) (hs : σ.1[a]? = some (.inl (ci, fl))) (hX : z_X G M n0 p s m args meth c) (hP : z_P G σ s H locs) : z_rec C a G s H := va_recv hX.2.2.2.2.2.2.2.2.1 hP.1.1 hc0 (z_ws_get hs)
theorem z_recS {G : z_G} {p : Program} {s : State} {m : MethodId} {args : Array Value} {meth : Method} {c : Code} {H : Heap} {locs : List Loc} {n0 i : Nat} (hi : i < 35) (hX : z_X G M n0 p s m args meth c) (hP : z_P G σ s H locs) : z_rec "java/lang/String" (1001 + i) G s H := by
  have hO := hX.2.2.2.2.2.2.2.2.2.1
  obtain ⟨cell, e1, e2, e3, -⟩ := (hO.2.1 i hi).1.kept hP.2.2.1
  exact ⟨cell, e1, e2, e3⟩
theorem z_callV {As rest st : List z_V} {a ci idx n : Nat} {fl : List (Option (Option Nat))} {C : String} {T : u_T} {N : Nat} (hme : z_me M' n) (hin : Cond.instanceMethod M'.1 ∈ z_tb) (hse : Cond.selects C M'.1 M'.1 ∈ z_tb) (hc0 : z_Cl[ci]? = some (C, T, N)) (hlk : z_lk M.1.cls idx M') (hrm : z_rm M M') (hd : decode M.2.1 pc = .ok (.invokevirtual idx, 3))
    (hs : σ.1[a]? = some (.inl (ci, fl))) (hst : st = As.reverse ++ z_r a :: rest) (hn : As.length = n) (h1 : ∀ v ∈ As, z_c1 v) (h2 : As.length + 1 ≤ M'.2.2.1) (hw : z_wds rest ≤ 8) (hcc : M'.2.2.2.2.cells = 0 ∧ M'.2.2.2.2.slots = 0)
    (k : z_Sem M' (σ.1.length, 0) 0 (z_la 0 (z_r a :: As)) [] σ (fun v σ' => z_Sem M nz (pc + 3) L (v.toList ++ rest) σ' Q)) : z_Sem M nz pc L st σ Q :=
  z_callN (z_invV (C := C) hme hin hse hlk hrm hd hn) hme.2.2.2.2 (fun G p s m args meth c H locs hX hP => z_recC hc0 hs hX hP) (by rw [hst]; simp) (List.forall_mem_cons.mpr ⟨True.intro, h1⟩) h2 hw hcc k
/-- a String constant's method -/
theorem z_callVS {As rest st : List z_V} {i idx n : Nat} (hi : i < 35) (hme : z_me M' n) (hin : Cond.instanceMethod M'.1 ∈ z_tb) (hse : Cond.selects "java/lang/String" M'.1 M'.1 ∈ z_tb) (hlk : z_lk M.1.cls idx M') (hrm : z_rm M M') (hd : decode M.2.1 pc = .ok (.invokevirtual idx, 3))
    (hst : st = As.reverse ++ z_r (1001 + i) :: rest) (hn : As.length = n) (h1 : ∀ v ∈ As, z_c1 v) (h2 : As.length + 1 ≤ M'.2.2.1) (hw : z_wds rest ≤ 8) (hcc : M'.2.2.2.2.cells = 0 ∧ M'.2.2.2.2.slots = 0)
    (k : z_Sem M' (σ.1.length, 0) 0 (z_la 0 (z_r (1001 + i) :: As)) [] σ (fun v σ' => z_Sem M nz (pc + 3) L (v.toList ++ rest) σ' Q)) : z_Sem M nz pc L st σ Q :=
  z_callN (z_invV (C := "java/lang/String") hme hin hse hlk hrm hd hn) hme.2.2.2.2 (fun G p s m args meth c H locs hX hP => z_recS hi hX hP) (by rw [hst]; simp) (List.forall_mem_cons.mpr ⟨True.intro, h1⟩) h2 hw hcc k
theorem z_callS {As rest st : List z_V} {idx n : Nat} (hme : z_me M' n) (hstt : Cond.static M'.1 ∈ z_tb) (hlk : z_lk M.1.cls idx M') (hrm : z_rm M M') (hd : decode M.2.1 pc = .ok (.invokestatic idx, 3))
    (hst : st = As.reverse ++ rest) (hn : As.length = n) (h1 : ∀ v ∈ As, z_c1 v) (h2 : As.length ≤ M'.2.2.1) (hw : z_wds rest ≤ 8) (hcc : M'.2.2.2.2.cells = 0 ∧ M'.2.2.2.2.slots = 0)
    (k : z_Sem M' (σ.1.length, 0) 0 (z_la 0 As) [] σ (fun v σ' => z_Sem M nz (pc + 3) L (v.toList ++ rest) σ' Q)) : z_Sem M nz pc L st σ Q :=
  z_callN (z_invS hme hstt hlk hrm hd hn) hme.2.2.2.2 (fun _ _ _ _ _ _ _ _ _ _ _ => True.intro) hst h1 h2 hw hcc k
end ZCALL2
