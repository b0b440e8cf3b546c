/-! THE ABSTRACT MACHINE: ints are whole numbers in range, references are small numbers (below 1000: cells, by names that a method gives them), memory is a shape and a function of numbers. -/
/-- the classes of the claim, in the order of the rows -/
abbrev z_Cl : List vw_C := [(RX0, TX0, 3), (RX1, TX1, 3), (RX2, TX2, 7), (RX3, TX3, 12), (RX4, TX4, 6), (RX5, TX5, 2), (RX6, TX6, 2), (RX7, TX7, 2), (RX8, TX8, 9), (RJ0, TJ0, 4), (RJ4, TJ4, 4)]
abbrev z_V : Type := Int ⊕ (Nat ⊕ (UInt32 ⊕ (UInt64 ⊕ Option Nat)))
abbrev z_i (x : Int) : z_V := Sum.inl x
abbrev z_r (a : Nat) : z_V := Sum.inr (Sum.inl a)
abbrev z_f (x : UInt32) : z_V := Sum.inr (Sum.inr (Sum.inl x))
abbrev z_d (x : UInt64) : z_V := Sum.inr (Sum.inr (Sum.inr (Sum.inl x)))
abbrev z_x (o : Option Nat) : z_V := Sum.inr (Sum.inr (Sum.inr (Sum.inr o)))
/-- an object (its class's number, its fields: none for a number, some r for a reference), a row of numbers (its kind, its length), a row of references -/
abbrev z_C : Type := (Nat × List (Option (Option Nat))) ⊕ ((Nat × Nat) ⊕ List (Option Nat))
abbrev z_S : Type := List z_C × (Nat → Int → Int)
abbrev z_M : Type := MethodName × (ByteArray × (Nat × (Option FieldType × Room)))
/-- the classes' numbers, arrays' classes, which addresses are one's own, names' addresses, the script -/
abbrev z_G : Type := va_G × ((Nat → ClassId) × ((Nat → Prop) × ((Nat → Nat) × (Nat × (Nat → Int32)))))
def z_ad (G : z_G) (a : Nat) : Nat := G.2.2.2.1 a
/-- the same with other addresses -/
def z_wa (G : z_G) (f : Nat → Nat) : z_G := (G.1, G.2.1, G.2.2.1, f, G.2.2.2.2)
def z_cv (G : z_G) : z_V → Value
  | .inl x => .int (Int32.ofInt x)
  | .inr (.inl a) => .ref (z_ad G a)
  | .inr (.inr (.inl x)) => .float x
  | .inr (.inr (.inr (.inl x))) => .double x
  | .inr (.inr (.inr (.inr o))) => va_rf o
abbrev z_R (x : Int) : Prop := -2147483648 ≤ x ∧ x ≤ 2147483647
def z_Rv : z_V → Prop
  | .inl x => z_R x
  | _ => True
def z_fld (G : z_G) (f : Int → Int) (k : Nat) : Option (Option Nat) → Value
  | none => .int (Int32.ofInt (f (k : Int)))
  | some none => .null
  | some (some r) => .ref (z_ad G r)
def z_cell (G : z_G) (f : Int → Int) : z_C → va_E
  | .inl (ci, fl) => .inr (ci, fl.mapIdx (z_fld G f))
  | .inr (.inl (kd, n)) => .inl (G.2.1 kd, n, .inl (fun j => Int32.ofInt (f (j : Int))))
  | .inr (.inr rs) => .inl (G.2.1 3, rs.length, .inr (.inr (.inr (.inr (fun j => (rs.getD j none).map (z_ad G))))))
def z_ws (G : z_G) (σ : z_S) : va_W := σ.1.mapIdx (fun i c => (z_ad G i, z_cell G (σ.2 i) c))
theorem z_ws_get {G : z_G} {σ : z_S} {a : Nat} {c : z_C} (h : σ.1[a]? = some c) : (z_ws G σ)[a]? = some (z_ad G a, z_cell G (σ.2 a) c) := by simp [z_ws, h]
theorem z_ws_len (G : z_G) (σ : z_S) : (z_ws G σ).length = σ.1.length := by simp [z_ws]
/-- memory with another cell -/
def z_u (σ : z_S) (a : Nat) (c : z_C) (f : Int → Int) : z_S := (σ.1.set a c, fun b => if b = a then f else σ.2 b)
/-- memory with another number -/
def z_w (σ : z_S) (a : Nat) (i x : Int) : z_S := (σ.1, fun b j => if b = a ∧ j = i then x else σ.2 b j)
/-- memory with a copied stretch -/
def z_cp (σ : z_S) (a0 : Nat) (sp : Int) (a : Nat) (dp n : Int) : z_S := (σ.1, fun b j => if b = a ∧ dp ≤ j ∧ j < dp + n then σ.2 a0 (sp + (j - dp)) else σ.2 b j)
theorem z_ws_set {G : z_G} {σ : z_S} {a : Nat} {c0 : z_C} (h : σ.1[a]? = some c0) (c : z_C) (f : Int → Int) : (z_ws G σ).set a (z_ad G a, z_cell G f c) = z_ws G (z_u σ a c f) := by
  apply List.ext_getElem?
  intro i
  have hl := (List.getElem?_eq_some_iff.mp h).1
  by_cases hi : i = a
  · subst hi
    rw [List.getElem?_set_self (by rw [z_ws_len]; exact hl)]
    simp [z_ws, z_u, hl]
  · rw [List.getElem?_set_ne (Ne.symm hi)]
    simp only [z_ws, z_u, List.getElem?_mapIdx, List.getElem?_set_ne (Ne.symm hi), if_neg hi]
theorem z_u_self {σ : z_S} {a : Nat} {c : z_C} (h : σ.1[a]? = some c) (f : Int → Int) : z_u σ a c f = (σ.1, fun b => if b = a then f else σ.2 b) := by
  obtain ⟨hl, he⟩ := List.getElem?_eq_some_iff.mp h
  simp only [z_u, ← he, List.set_getElem_self]
theorem z_w_eq {σ : z_S} {a : Nat} {c : z_C} (h : σ.1[a]? = some c) (i x : Int) : z_u σ a c (fun j => if j = i then x else σ.2 a j) = z_w σ a i x := by
  rw [z_u_self h, z_w]
  congr 1
  funext b j
  by_cases hb : b = a
  · subst hb; by_cases hj : j = i <;> simp [hj]
  · simp [hb]
theorem z_cp_eq {σ : z_S} {a : Nat} {c : z_C} (h : σ.1[a]? = some c) (a0 : Nat) (sp dp n : Int) : z_u σ a c (fun j => if dp ≤ j ∧ j < dp + n then σ.2 a0 (sp + (j - dp)) else σ.2 a j) = z_cp σ a0 sp a dp n := by
  rw [z_u_self h, z_cp]
  congr 1
  funext b j
  by_cases hb : b = a
  · subst hb; simp
  · simp [hb]
/-- private methods of StringBuilder's superclass, called on a StringBuilder -/
def z_priv : List MethodName := [yJ5_ensureCapacityInternal_d00df, yJ5_newCapacity_0f7a4, yJ5_putStringAt_47b60, yJ5_inflateIfNeededFor_a7421]
def z_all : List Cond := lw_tbl ++ z_priv.map (fun y => Cond.selects "java/lang/StringBuilder" y y)
/-- the tables' words that a callee may be handed -/
def z_tb : List Cond := z_all.filter goodWord
theorem z_w1 {w : Cond} (i : Nat) (h : z_all[i]? = some w) (g : goodWord w = true) : w ∈ z_tb := List.mem_filter.mpr ⟨List.mem_of_getElem? h, g⟩
theorem z_tb_good : ∀ w ∈ z_tb, goodWord w = true := fun _ h => (List.mem_filter.mp h).2
/-- links to nest mates' members -/
def z_nst : Cond → Bool
  | .fieldLinkNest .. => true
  | .methodLinkNest .. => true
  | .castable .. => true
  | _ => false
def z_tn : List Cond := lw_tbl.filter z_nst
theorem z_w2 {w : Cond} (i : Nat) (h : lw_tbl[i]? = some w) (g : z_nst w = true) : w ∈ z_tn := List.mem_filter.mpr ⟨List.mem_of_getElem? h, g⟩
theorem z_nstT {w : Cond} (h : w ∈ z_tn) : w.onTables = true := by
  have h1 := (List.mem_filter.mp h).2
  cases w <;> first | rfl | cases h1
theorem z_nstW {w : Cond} (h : w ∈ z_tn) {s U : State} (hW : s.WarmedH U.vm) (hZ : va_Nw w s) : va_Nw w U := by
  have h1 := (List.mem_filter.mp h).2
  cases w <;> first | exact va_Nw.warmF hW hZ | exact va_Nw.warmM hW hZ | exact va_Nw.warmC hW hZ | cases h1
def z_tys (G : z_G) : List (ClassId × FieldType) := [(G.2.1 0, .int), (G.2.1 1, .boolean), (G.2.1 2, .byte), (G.2.1 3, .object "TimeGaps$Plan")]
/-- String constants: owner, entry, text -/
def z_sl : List (String × Nat × String) := [("TimeGaps$Plan", 60, "start"), ("TimeGaps$SetupReader", 103, "most"), ("TimeGaps$SetupReader", 105, "least"), ("TimeGaps$SetupReader", 107, "end"), ("TimeGaps$SetupReader", 141, "off"), ("TimeGaps$SetupReader", 49, "event"), ("TimeGaps$SetupReader", 62, "gap"), ("TimeGaps$SetupReader", 67, "pin"), ("TimeGaps$Tape", 27, "end"), ("TimeGaps$Tape", 33, "event"), ("TimeGaps$Tape", 35, "gap"), ("TimeGaps$Tape", 37, "start"), ("TimeGaps$Tape", 39, "most"), ("TimeGaps$Tape", 41, "least"), ("TimeGaps$Tape", 43, "off"), ("TimeGaps$Tape", 45, "pin"), ("TimeGaps$Text", 48, "end "), ("TimeGaps$Text", 57, "event "), ("TimeGaps$Text", 65, "pin "), ("TimeGaps$Text", 70, "gap "), ("TimeGaps$Text", 81, " most "), ("TimeGaps$Text", 83, " least "), ("TimeGaps$Text", 92, " off"), ("TimeGapsLaw", 66, "end "), ("TimeGapsLaw", 74, ";"), ("TimeGapsLaw", 79, "event "), ("TimeGapsLaw", 87, "gap "), ("TimeGapsLaw", 89, "start"), ("TimeGapsLaw", 91, ""), ("TimeGapsLaw", 93, " most "), ("TimeGapsLaw", 95, " least "), ("TimeGapsLaw", 97, " off;"), ("TimeGapsLaw", 99, "pin "), ("TimeGapsLaw", 101, " "), ("TimeGapsLaw", 140, "n")]
def z_len : List Nat := z_sl.map (fun q => q.2.2.length)
def z_byt : List (List Int32) := z_sl.map (fun q => q.2.2.toList.map (fun ch => Int32.ofNat ch.toNat))
/-- what was there before: the script, String constants, statics -/
def z_O (G : z_G) (U : State) (H : Heap) : Prop :=
  (va_X (z_ad G 1000) G.2.2.2.2.1 G.2.2.2.2.2 U H ∧ ¬ G.2.2.1 (z_ad G 1000)) ∧
  (∀ i : Nat, i < 35 → va_O "java/lang/String" (z_ad G (1001 + i)) G.2.2.1 U H ∧ va_OF "java/lang/String" "coder" "B" (.int 0) (z_ad G (1001 + i)) G.2.2.1 U H ∧ va_OF "java/lang/String" "value" "[B" (.ref (z_ad G (1101 + i))) (z_ad G (1001 + i)) G.2.2.1 U H ∧ va_T .byte (z_ad G (1101 + i)) (z_len.getD i 0) (fun j => .int ((z_byt.getD i []).getD j 0)) G.2.2.1 U H) ∧
  (∀ (i : Nat) (q : String × Nat × String), z_sl[i]? = some q → vk_R q.1 q.2.1 q.2.2 (z_ad G (1001 + i)) U) ∧
  va_Z "java/lang/String" "COMPACT_STRINGS" "Z" (.int 1) G.2.2.1 U H ∧
  (va_Zq "jdk/internal/util/Preconditions" "SIOOBE_FORMATTER" "Ljava/util/function/BiFunction;" G.2.2.1 U H ∧ va_AO "TimeGaps$Plan" U) ∧
  (∀ w ∈ z_tn, va_Nw w U) ∧
  (va_Z "java/lang/Integer" "DigitOnes" "[B" (.ref (z_ad G 1201)) G.2.2.1 U H ∧ va_T .byte (z_ad G 1201) 100 (fun j => .int (Int32.ofNat (48 + j % 10))) G.2.2.1 U H) ∧
  (va_Z "java/lang/Integer" "DigitTens" "[B" (.ref (z_ad G 1202)) G.2.2.1 U H ∧ va_T .byte (z_ad G 1202) 100 (fun j => .int (Int32.ofNat (48 + j / 10))) G.2.2.1 U H)
theorem z_O.moved {G : z_G} {u U : State} {H : Heap} (hW : u.WarmedH U.vm) (h : z_O G u H) : z_O G U H := by
  obtain ⟨⟨h1, h2⟩, h3, h4, h5, h6, h7, h8, h9⟩ := h
  exact ⟨⟨h1.moved hW.alike, h2⟩, fun i hi => ⟨va_O.moved hW.alike (h3 i hi).1, va_OF.moved hW.alike (h3 i hi).2.1, va_OF.moved hW.alike (h3 i hi).2.2.1, va_T.moved hW.alike (h3 i hi).2.2.2⟩, fun i q hq => (h4 i q hq).warm hW, va_Z.moved hW.alike h5, ⟨va_Zq.moved hW.alike h6.1, va_AO.moved hW.alike h6.2⟩, fun w hw => z_nstW hw hW (h7 w hw), ⟨va_Z.moved hW.alike h8.1, va_T.moved hW.alike h8.2⟩, va_Z.moved hW.alike h9.1, va_T.moved hW.alike h9.2⟩
theorem z_O.same {G : z_G} {u U : State} {H : Heap} (hv : U.vm = u.vm) (h : z_O G u H) : z_O G U H := by
  have hA : u.vm.Alike U.vm := by rw [hv]; exact Vm.Alike.refl u.vm
  obtain ⟨⟨h1, h2⟩, h3, h4, h5, h6, h7, h8, h9⟩ := h
  exact ⟨⟨h1.moved hA, h2⟩, fun i hi => ⟨va_O.moved hA (h3 i hi).1, va_OF.moved hA (h3 i hi).2.1, va_OF.moved hA (h3 i hi).2.2.1, va_T.moved hA (h3 i hi).2.2.2⟩, fun i q hq => (h4 i q hq).same hv, va_Z.moved hA h5, ⟨va_Zq.moved hA h6.1, va_AO.moved hA h6.2⟩, fun w hw => (h7 w hw).same (z_nstT hw) hv.symm, ⟨va_Z.moved hA h8.1, va_T.moved hA h8.2⟩, va_Z.moved hA h9.1, va_T.moved hA h9.2⟩
theorem z_O.kept {G : z_G} {U : State} {H H1 : Heap} (h : z_O G U H) (hq : ∀ a : Nat, a < H.size → ¬ G.2.2.1 a → H1[a]? = H[a]?) : z_O G U H1 := by
  obtain ⟨⟨h1, h2⟩, h3, h4, h5, h6, h7, h8, h9⟩ := h
  refine ⟨⟨h1.kept (hq _ ?_ h2), h2⟩, fun i hi => ⟨(h3 i hi).1.kept hq, (h3 i hi).2.1.kept hq, (h3 i hi).2.2.1.kept hq, (h3 i hi).2.2.2.kept hq⟩, h4, h5.kept hq, ⟨h6.1.kept hq, h6.2⟩, h7, ⟨h8.1.kept hq, h8.2.kept hq⟩, h9.1.kept hq, h9.2.kept hq⟩
  obtain ⟨scr, e1, -⟩ := h1
  exact (Array.getElem?_eq_some_iff.mp e1).1
/-- the memory lies in the heap -/
def z_P0 (G : z_G) (σ : z_S) (H : Heap) : Prop :=
  va_P G.1 z_Cl (z_ws G σ) H ∧ σ.1.length ≤ 1000 ∧ (∀ (a : Nat) (i : Int), z_R (σ.2 a i)) ∧ (∀ j : Nat, j < G.2.2.2.2.1 → σ.2 1000 (j : Int) = (G.2.2.2.2.2 j).toInt) ∧ σ.2 1001 0 = (G.2.2.2.2.1 : Int) ∧ (∀ i : Nat, i < σ.1.length → G.2.2.1 (z_ad G i)) ∧ (∀ i j : Nat, i < σ.1.length → j < σ.1.length → z_ad G i = z_ad G j → i = j)
def z_P (G : z_G) (σ : z_S) (s : State) (H : Heap) (locs : List Loc) : Prop := z_P0 G σ H ∧ va_S G.2.2.1 s.heap H locs
theorem z_D {G : z_G} {σ : z_S} {H : Heap} (hP : z_P0 G σ H) : va_D G.2.2.1 (z_ws G σ) := by
  have key : ∀ (k : Nat) (q : Nat × va_E), (z_ws G σ)[k]? = some q → k < σ.1.length ∧ q.1 = z_ad G k := by
    intro k q h
    simp only [z_ws, List.getElem?_mapIdx, Option.map_eq_some_iff] at h
    obtain ⟨c, hc, rfl⟩ := h
    exact ⟨(List.getElem?_eq_some_iff.mp hc).1, rfl⟩
  refine ⟨fun i j p q hi hj h => ?_, fun k q h => ?_⟩
  · have h1 := key i p hi
    have h2 := key j q hj
    exact hP.2.2.2.2.2.2 i j h1.1 h2.1 (by rw [← h1.2, ← h2.2]; exact h)
  · have h1 := key k q h
    rw [h1.2]
    exact hP.2.2.2.2.2.1 k h1.1

/-! a method's activation; n0: how many cells there were at its entry -/
def z_X (G : z_G) (M : z_M) (n0 : Nat) (p : Program) (s : State) (m : MethodId) (args : Array Value) (meth : Method) (c : Code) : Prop :=
  p.tables.exec = Jvm.exec ∧ c.code = M.2.1 ∧ meth.sig.returnType = M.2.2.2.1 ∧ c.maxLocals = M.2.2.1 ∧ s.vm.findClass M.1.cls = some m.cls ∧ (∀ w ∈ z_tb, w.before args s = true) ∧ meth.locks = false ∧ (M.1.name = "<init>" → meth.name = "<init>") ∧ va_K G.1 z_Cl (z_tys G) s ∧ z_O G s s.heap ∧ ∀ q : Nat, s.heap.size ≤ q → G.2.2.1 q
/-- the same but for addresses of names that are no entry's -/
def z_ag (c0 n0 : Nat) (G G' : z_G) : Prop := ∃ f : Nat → Nat, G' = z_wa G f ∧ (∀ a : Nat, (a < n0 ∨ 1000 ≤ a) → f a = z_ad G a) ∧ (c0 = 0 → G' = G)
theorem z_ag.rf (c0 n0 : Nat) (G : z_G) : z_ag c0 n0 G G := ⟨z_ad G, rfl, fun _ _ => rfl, fun _ => rfl⟩
/-- how a value is returned -/
def z_rk (ret : Option FieldType) (v : Option z_V) (ins : Instr) : Prop := match v with
  | none => ret = none ∧ ins = .return_
  | some (.inl x) => ins = .ireturn ∧ (ret = some .int ∨ (ret = some .boolean ∧ 0 ≤ x ∧ x ≤ 1) ∨ (ret = some .char ∧ 0 ≤ x ∧ x ≤ 65535) ∨ (ret = some .byte ∧ -128 ≤ x ∧ x ≤ 127))
  | some (.inr (.inl _)) => ins = .areturn ∧ ∃ t : FieldType, ret = some t ∧ ((∃ n, t = .object n) ∨ ∃ u, t = .array u)
  | some (.inr (.inr (.inl _))) => ins = .freturn ∧ ret = some .float
  | some (.inr (.inr (.inr (.inl _)))) => ins = .dreturn ∧ ret = some .double
  | _ => False
def z_Z (G : z_G) (M : z_M) (n0 : Nat) (p : Program) (l : Launch) (e : Env) (s : State) (m : MethodId) (args : Array Value) (below : List Frame) (meth : Method) (c : Code) (Z : State → Prop) (Q : Option z_V → z_S → Prop) : Prop :=
  ∀ (G' : z_G) (v : Option z_V) (σ' : z_S) (H' : Heap) (locs' : List Loc) (z' pc : Nat) (ls' : Array Slot) (ins : Instr), z_ag M.2.2.2.2.cells n0 G G' → Q v σ' → z_P G' σ' s H' locs' → (∀ x, v = some x → z_Rv x) → n0 ≤ σ'.1.length → z' ≤ M.2.2.2.2.cells ∧ z' ≤ M.2.2.2.2.slots → z_rk M.2.2.2.1 v ins → decode M.2.1 pc = .ok (ins, 1) →
    W p l e M.2.2.2.2 s m args below meth c H' locs' z' z' Z (F0 m pc ls' (v.toList.map (z_cv G')))
def z_lo (G : z_G) (L : List (Nat × z_V)) : List (Nat × Value) := L.map (fun q => (q.1, z_cv G q.2))
/-- FROM THIS POINT of the method, in any activation of it whose heap holds the memory, the method returns, with Q of the answer and of the memory behind it; nz: the cells at its entry, a bound of cells and slots made since -/
def z_Sem (M : z_M) (nz : Nat × Nat) (pc : Nat) (L : List (Nat × z_V)) (st : List z_V) (σ : z_S) (Q : Option z_V → z_S → Prop) : Prop :=
  ∀ (G : z_G) (p : Program) (l : Launch) (e : Env) (s : State) (m : MethodId) (args : Array Value) (below : List Frame) (meth : Method) (c : Code) (Z : State → Prop) (H : Heap) (locs : List Loc) (ls : Array Slot),
    z_X G M nz.1 p s m args meth c → z_Z G M nz.1 p l e s m args below meth c Z Q → z_P G σ s H locs → (∀ q ∈ L, z_Rv q.2) → (∀ q ∈ st, z_Rv q) → lv_has ls M.2.2.1 (z_lo G L) → nz.1 ≤ σ.1.length ∧ nz.2 ≤ M.2.2.2.2.cells ∧ nz.2 ≤ M.2.2.2.2.slots →
    W p l e M.2.2.2.2 s m args below meth c H locs nz.2 nz.2 Z (F0 m pc ls (st.map (z_cv G)))
