theorem z_pure {M : z_M} {nz : Nat × Nat} {pc pc' : Nat} {L L' : List (Nat × z_V)} {st st' : List z_V} {σ : z_S} {Q : Option z_V → z_S → Prop}
    (h : ∀ (G : z_G) (p : Program) (l : Launch) (e : Env) (s : State) (m : MethodId) (args : Array Value) (below : List Frame) (meth : Method) (c : Code) (Z : State → Prop) (H : Heap) (locs : List Loc) (ls : Array Slot), z_X G M nz.1 p s m args meth c → z_P G σ s H locs → (∀ q ∈ L, z_Rv q.2) → (∀ q ∈ st, z_Rv q) → lv_has ls M.2.2.1 (z_lo G L) →
      (∀ ls' : Array Slot, lv_has ls' M.2.2.1 (z_lo G L') → W p l e M.2.2.2.2 s m args below meth c H locs nz.2 nz.2 Z (F0 m pc' ls' (st'.map (z_cv G)))) → W p l e M.2.2.2.2 s m args below meth c H locs nz.2 nz.2 Z (F0 m pc ls (st.map (z_cv G))))
    (hL' : (∀ q ∈ L, z_Rv q.2) → (∀ q ∈ st, z_Rv q) → ∀ q ∈ L', z_Rv q.2) (hS' : (∀ q ∈ L, z_Rv q.2) → (∀ q ∈ st, z_Rv q) → ∀ q ∈ st', z_Rv q)
    (k : z_Sem M nz pc' L' st' σ Q) : z_Sem M nz pc L st σ Q := by
  intro G p l e s m args below meth c Z H locs ls hX hZ hP hL hS hl hc
  exact h G p l e s m args below meth c Z H locs ls hX hP hL hS hl (fun ls' hl' => k G p l e s m args below meth c Z H locs ls' hX hZ hP (hL' hL hS) (hS' hL hS) hl' hc)
/-- fewer locals -/
theorem z_sub {M : z_M} {nz : Nat × Nat} {pc : Nat} {L L' : List (Nat × z_V)} {st : List z_V} {σ : z_S} {Q : Option z_V → z_S → Prop} (ks : List Nat) (h : ks.filterMap (fun k => L[k]?) = L') (k : z_Sem M nz pc L' st σ Q) : z_Sem M nz pc L st σ Q := by
  subst h
  have hm : ∀ q ∈ ks.filterMap (fun k => L[k]?), q ∈ L := by
    intro q hq
    obtain ⟨i, -, hi⟩ := List.mem_filterMap.mp hq
    exact List.mem_of_getElem? hi
  refine z_pure ?_ ?_ ?_ k
  · intro G p l e s m args below meth c Z H locs ls hX hP hL hS hl kk
    refine kk ls ⟨hl.1, hl.2.1, ?_⟩
    intro q hq
    simp only [z_lo, List.mem_map] at hq
    obtain ⟨r, hr, rfl⟩ := hq
    exact hl.2.2 _ (List.mem_map.mpr ⟨r, hm r hr, rfl⟩)
  · exact fun h1 _ q hq => h1 q (hm q hq)
  · exact fun _ h2 => h2
theorem z_toInt {x : Int} (h : z_R x) : (Int32.ofInt x).toInt = x := Int32.toInt_ofInt_of_le (by have := h.1; simpa using this) (by have := h.2; omega)
theorem z_clamp {x : Int} (h : z_R x) : (Int32.ofInt x).toNatClampNeg = x.toNat := by
  show (Int32.ofInt x).toInt.toNat = _
  rw [z_toInt h]
theorem z_lt {x y : Int} (hx : z_R x) (hy : z_R y) : Int32.ofInt x < Int32.ofInt y ↔ x < y := by rw [Int32.lt_iff_toInt_lt, z_toInt hx, z_toInt hy]
theorem z_le {x y : Int} (hx : z_R x) (hy : z_R y) : Int32.ofInt x ≤ Int32.ofInt y ↔ x ≤ y := by rw [Int32.le_iff_toInt_le, z_toInt hx, z_toInt hy]
theorem z_eq {x y : Int} (hx : z_R x) (hy : z_R y) : Int32.ofInt x = Int32.ofInt y ↔ x = y := by rw [← Int32.toInt_inj, z_toInt hx, z_toInt hy]
theorem z_zero : z_R 0 := by constructor <;> decide
theorem z_of0 : (0 : Int32) = Int32.ofInt 0 := by decide
theorem z_in {x : Int} {n : Nat} (h : z_R x) (h0 : 0 ≤ x) (h1 : x < (n : Int)) : vp_in (Int32.ofInt x) n := by
  unfold vp_in
  rw [z_clamp h, z_of0, z_lt h z_zero]
  omega
section ZRULES
variable {M : z_M} {nz : Nat × Nat} {pc : Nat} {L : List (Nat × z_V)} {st : List z_V} {σ : z_S} {Q : Option z_V → z_S → Prop}
theorem z_RvC {x : z_V} {st : List z_V} (h : ∀ q ∈ x :: st, z_Rv q) : z_Rv x ∧ ∀ q ∈ st, z_Rv q := ⟨h x List.mem_cons_self, fun q hq => h q (List.mem_cons_of_mem _ hq)⟩
theorem z_RvM {x : z_V} {st : List z_V} (h1 : z_Rv x) (h : ∀ q ∈ st, z_Rv q) : ∀ q ∈ x :: st, z_Rv q := List.forall_mem_cons.mpr ⟨h1, h⟩
theorem z_RvI {x : Int} {st : List z_V} (h1 : z_R x) (h : ∀ q ∈ st, z_Rv q) : ∀ q ∈ z_i x :: st, z_Rv q := z_RvM (x := z_i x) h1 h
theorem z_RvN {x : Nat} {st : List z_V} (h : ∀ q ∈ st, z_Rv q) : ∀ q ∈ z_r x :: st, z_Rv q := z_RvM (x := z_r x) True.intro h
theorem z_RvD {x : UInt64} {st : List z_V} (h : ∀ q ∈ st, z_Rv q) : ∀ q ∈ z_d x :: st, z_Rv q := z_RvM (x := z_d x) True.intro h
theorem z_RvF {x : UInt32} {st : List z_V} (h : ∀ q ∈ st, z_Rv q) : ∀ q ∈ z_f x :: st, z_Rv q := z_RvM (x := z_f x) True.intro h
theorem z_iconst {n : Int} (hd : decode M.2.1 pc = .ok (.iconst n, 1)) (hn : z_R n) (k : z_Sem M nz (pc + 1) L (z_i n :: st) σ Q) : z_Sem M nz pc L st σ Q :=
  z_pure (fun _ _ _ _ _ _ _ _ _ _ _ _ _ ls hX _ _ _ hl kk => lv_iconst hX.1 hX.2.1 hd rfl (kk ls hl)) (fun h _ => h) (fun _ h => z_RvI hn h) k
theorem z_bipush {n : Int} (hd : decode M.2.1 pc = .ok (.bipush n, 2)) (hv : (Int8.ofInt n).toInt32 = Int32.ofInt n) (hn : z_R n) (k : z_Sem M nz (pc + 2) L (z_i n :: st) σ Q) : z_Sem M nz pc L st σ Q :=
  z_pure (fun _ _ _ _ _ _ _ _ _ _ _ _ _ ls hX _ _ _ hl kk => lv_bipush hX.1 hX.2.1 hd hv (kk ls hl)) (fun h _ => h) (fun _ h => z_RvI hn h) k
theorem z_sipush {n : Int} (hd : decode M.2.1 pc = .ok (.sipush n, 3)) (hv : (Int16.ofInt n).toInt32 = Int32.ofInt n) (hn : z_R n) (k : z_Sem M nz (pc + 3) L (z_i n :: st) σ Q) : z_Sem M nz pc L st σ Q :=
  z_pure (fun _ _ _ _ _ _ _ _ _ _ _ _ _ ls hX _ _ _ hl kk => lv_sipush hX.1 hX.2.1 hd hv (kk ls hl)) (fun h _ => h) (fun _ h => z_RvI hn h) k
theorem z_ldc {n : Int} {v : Int32} {idx : Nat} (hc : Cond.constant M.1.cls idx v ∈ z_tb) (hd : decode M.2.1 pc = .ok (.ldc idx, 2)) (hv : v = Int32.ofInt n) (hn : z_R n) (k : z_Sem M nz (pc + 2) L (z_i n :: st) σ Q) : z_Sem M nz pc L st σ Q :=
  z_pure (fun _ _ _ _ _ _ _ _ _ _ _ _ _ ls hX _ _ _ hl kk => lv_ldc hX.1 hX.2.1 hX.2.2.2.2.1 (hX.2.2.2.2.2.1 _ hc) hd (by rw [hv]; exact kk ls hl)) (fun h _ => h) (fun _ h => z_RvI hn h) k
theorem z_ldcw {n : Int} {v : Int32} {idx : Nat} (hc : Cond.constant M.1.cls idx v ∈ z_tb) (hd : decode M.2.1 pc = .ok (.ldc_w idx, 3)) (hv : v = Int32.ofInt n) (hn : z_R n) (k : z_Sem M nz (pc + 3) L (z_i n :: st) σ Q) : z_Sem M nz pc L st σ Q :=
  z_pure (fun _ _ _ _ _ _ _ _ _ _ _ _ _ ls hX _ _ _ hl kk => lv_ldcw hX.1 hX.2.1 hX.2.2.2.2.1 (hX.2.2.2.2.2.1 _ hc) hd (by rw [hv]; exact kk ls hl)) (fun h _ => h) (fun _ h => z_RvI hn h) k
theorem z_ldcS {idx i : Nat} {tx : String} (hs : z_sl[i]? = some (M.1.cls, idx, tx)) (hd : decode M.2.1 pc = .ok (.ldc idx, 2)) (k : z_Sem M nz (pc + 2) L (z_r (1001 + i) :: st) σ Q) : z_Sem M nz pc L st σ Q := by
  refine z_pure ?_ (fun h _ => h) (fun _ h => z_RvN h) k
  intro G p l e s m args below meth c Z H locs ls hX hP hL hS hl kk
  have hO := hX.2.2.2.2.2.2.2.2.2.1
  exact va_ldcS hX.1 hX.2.1 hX.2.2.2.2.1 (hO.2.2.1 i _ hs) hd (kk ls hl)
theorem z_at {G : z_G} {L : List (Nat × z_V)} {nL : Nat} {ls : Array Slot} (hl : lv_has ls nL (z_lo G L)) {j i : Nat} {v : z_V} (h : L[j]? = some (i, v)) : ls[i]? = some (.val (z_cv G v)) := lv_at hl j (by simp [z_lo, h])
theorem z_RvL {L : List (Nat × z_V)} {j i : Nat} {v : z_V} (h : L[j]? = some (i, v)) (hL : ∀ q ∈ L, z_Rv q.2) : z_Rv v := hL _ (List.mem_of_getElem? h)
theorem z_iload_n {q : Fin 4} {i : Nat} {x : Int} (j : Nat) (hd : decode M.2.1 pc = .ok (.iload_n q, 1)) (hi : (q : Nat) = i) (h : L[j]? = some (i, z_i x)) (k : z_Sem M nz (pc + 1) L (z_i x :: st) σ Q) : z_Sem M nz pc L st σ Q :=
  z_pure (fun _ _ _ _ _ _ _ _ _ _ _ _ _ ls hX _ _ _ hl kk => lv_iload_n hX.1 hX.2.1 hd hi (z_at hl h) (kk ls hl)) (fun h _ => h) (fun h1 h2 => z_RvI (z_RvL h h1) h2) k
theorem z_iload {i : Nat} {x : Int} (j : Nat) (hd : decode M.2.1 pc = .ok (.iload i, 2)) (h : L[j]? = some (i, z_i x)) (k : z_Sem M nz (pc + 2) L (z_i x :: st) σ Q) : z_Sem M nz pc L st σ Q :=
  z_pure (fun _ _ _ _ _ _ _ _ _ _ _ _ _ ls hX _ _ _ hl kk => lv_iload hX.1 hX.2.1 hd (z_at hl h) (kk ls hl)) (fun h _ => h) (fun h1 h2 => z_RvI (z_RvL h h1) h2) k
theorem z_aload_n {q : Fin 4} {i : Nat} {x : Nat} (j : Nat) (hd : decode M.2.1 pc = .ok (.aload_n q, 1)) (hi : (q : Nat) = i) (h : L[j]? = some (i, z_r x)) (k : z_Sem M nz (pc + 1) L (z_r x :: st) σ Q) : z_Sem M nz pc L st σ Q :=
  z_pure (fun _ _ _ _ _ _ _ _ _ _ _ _ _ ls hX _ _ _ hl kk => lv_aload_n hX.1 hX.2.1 hd hi (z_at hl h) (kk ls hl)) (fun h _ => h) (fun _ h2 => z_RvN h2) k
theorem z_aload {i : Nat} {x : Nat} (j : Nat) (hd : decode M.2.1 pc = .ok (.aload i, 2)) (h : L[j]? = some (i, z_r x)) (k : z_Sem M nz (pc + 2) L (z_r x :: st) σ Q) : z_Sem M nz pc L st σ Q :=
  z_pure (fun _ _ _ _ _ _ _ _ _ _ _ _ _ ls hX _ _ _ hl kk => lv_aload hX.1 hX.2.1 hd (z_at hl h) (kk ls hl)) (fun h _ => h) (fun _ h2 => z_RvN h2) k
theorem z_dload {i : Nat} {x : UInt64} (j : Nat) (hd : decode M.2.1 pc = .ok (.dload i, 2)) (h : L[j]? = some (i, z_d x)) (k : z_Sem M nz (pc + 2) L (z_d x :: st) σ Q) : z_Sem M nz pc L st σ Q :=
  z_pure (fun _ _ _ _ _ _ _ _ _ _ _ _ _ ls hX _ _ _ hl kk => lv_dload hX.1 hX.2.1 hd (z_at hl h) (kk ls hl)) (fun h _ => h) (fun _ h2 => z_RvD h2) k
def z_c2 : z_V → Bool
  | .inr (.inr (.inr (.inl _))) => true
  | _ => false
/-- the locals behind a store at i -/
def z_st (L : List (Nat × z_V)) (i : Nat) (v : z_V) : List (Nat × z_V) := (i, v) :: L.filter (fun q => !(q.1 == i) && !(q.1 + 1 == i && z_c2 q.2))
def z_st2 (L : List (Nat × z_V)) (i : Nat) (v : z_V) : List (Nat × z_V) := (i, v) :: L.filter (fun q => !(q.1 == i) && (!(q.1 == i + 1) && !(q.1 + 1 == i && z_c2 q.2)))
theorem z_cat (G : z_G) (v : z_V) : ((z_cv G v).category == 2) = z_c2 v := by
  rcases v with x | x | x | x | (_ | x) <;> rfl
theorem z_lo_st (G : z_G) (L : List (Nat × z_V)) (i : Nat) (v : z_V) : (i, z_cv G v) :: (z_lo G L).filter (fun q => !(q.1 == i) && !(q.1 + 1 == i && q.2.category == 2)) = z_lo G (z_st L i v) := by
  simp only [z_lo, z_st, List.map_cons, List.filter_map]
  congr 2
  refine List.filter_congr fun q _ => ?_
  simp only [Function.comp, z_cat]
theorem z_lo_st2 (G : z_G) (L : List (Nat × z_V)) (i : Nat) (v : z_V) : (i, z_cv G v) :: (z_lo G L).filter (fun q => !(q.1 == i) && (!(q.1 == i + 1) && !(q.1 + 1 == i && q.2.category == 2))) = z_lo G (z_st2 L i v) := by
  simp only [z_lo, z_st2, List.map_cons, List.filter_map]
  congr 2
  refine List.filter_congr fun q _ => ?_
  simp only [Function.comp, z_cat]
theorem z_RvS {L : List (Nat × z_V)} {i : Nat} {v : z_V} (hv : z_Rv v) (hL : ∀ q ∈ L, z_Rv q.2) : ∀ q ∈ z_st L i v, z_Rv q.2 := by
  intro q hq
  rcases List.mem_cons.mp hq with rfl | h
  · exact hv
  · exact hL q (List.mem_filter.mp h).1
theorem z_RvS2 {L : List (Nat × z_V)} {i : Nat} {v : z_V} (hv : z_Rv v) (hL : ∀ q ∈ L, z_Rv q.2) : ∀ q ∈ z_st2 L i v, z_Rv q.2 := by
  intro q hq
  rcases List.mem_cons.mp hq with rfl | h
  · exact hv
  · exact hL q (List.mem_filter.mp h).1
theorem z_istore_n {q : Fin 4} {i : Nat} {x : Int} {L' : List (Nat × z_V)} (hd : decode M.2.1 pc = .ok (.istore_n q, 1)) (hi : (q : Nat) = i) (hn : i < M.2.2.1) (hl' : z_st L i (z_i x) = L') (k : z_Sem M nz (pc + 1) L' st σ Q) : z_Sem M nz pc L (z_i x :: st) σ Q := by
  subst hl'
  exact z_pure (fun G _ _ _ _ _ _ _ _ _ _ _ _ ls hX _ _ _ hl kk => lv_istore_n hX.1 hX.2.1 hd hi hl hn (z_lo_st G L i (z_i x)) kk) (fun h1 h2 => z_RvS (z_RvC h2).1 h1) (fun _ h => (z_RvC h).2) k
theorem z_istore {i : Nat} {x : Int} {L' : List (Nat × z_V)} (hd : decode M.2.1 pc = .ok (.istore i, 2)) (hn : i < M.2.2.1) (hl' : z_st L i (z_i x) = L') (k : z_Sem M nz (pc + 2) L' st σ Q) : z_Sem M nz pc L (z_i x :: st) σ Q := by
  subst hl'
  exact z_pure (fun G _ _ _ _ _ _ _ _ _ _ _ _ ls hX _ _ _ hl kk => lv_istore hX.1 hX.2.1 hd hl hn (z_lo_st G L i (z_i x)) kk) (fun h1 h2 => z_RvS (z_RvC h2).1 h1) (fun _ h => (z_RvC h).2) k
theorem z_astore_n {q : Fin 4} {i : Nat} {x : Nat} {L' : List (Nat × z_V)} (hd : decode M.2.1 pc = .ok (.astore_n q, 1)) (hi : (q : Nat) = i) (hn : i < M.2.2.1) (hl' : z_st L i (z_r x) = L') (k : z_Sem M nz (pc + 1) L' st σ Q) : z_Sem M nz pc L (z_r x :: st) σ Q := by
  subst hl'
  exact z_pure (fun G _ _ _ _ _ _ _ _ _ _ _ _ ls hX _ _ _ hl kk => lv_astore_n hX.1 hX.2.1 hd hi hl hn (z_lo_st G L i (z_r x)) kk) (fun h1 h2 => z_RvS (z_RvC h2).1 h1) (fun _ h => (z_RvC h).2) k
theorem z_dstore {i : Nat} {x : UInt64} {L' : List (Nat × z_V)} (hd : decode M.2.1 pc = .ok (.dstore i, 2)) (hn : i + 1 < M.2.2.1) (hl' : z_st2 L i (z_d x) = L') (k : z_Sem M nz (pc + 2) L' st σ Q) : z_Sem M nz pc L (z_d x :: st) σ Q := by
  subst hl'
  exact z_pure (fun G _ _ _ _ _ _ _ _ _ _ _ _ ls hX _ _ _ hl kk => lv_dstore hX.1 hX.2.1 hd hl hn (z_lo_st2 G L i (z_d x)) kk) (fun h1 h2 => z_RvS2 (z_RvC h2).1 h1) (fun _ h => (z_RvC h).2) k
theorem z_iinc {i : Nat} {n x : Int} {L' : List (Nat × z_V)} (j : Nat) (hd : decode M.2.1 pc = .ok (.iinc i n, 3)) (h : L[j]? = some (i, z_i x)) (hn : i < M.2.2.1) (hl' : z_st L i (z_i (x + n)) = L') (hr : z_R (x + n)) (k : z_Sem M nz (pc + 3) L' st σ Q) : z_Sem M nz pc L st σ Q := by
  subst hl'
  exact z_pure (fun G _ _ _ _ _ _ _ _ _ _ _ _ ls hX _ _ _ hl kk => lv_iinc (k := j) hX.1 hX.2.1 hd hl (by simp [z_lo, h]; rfl) (Int32.ofInt_add x n).symm hn (z_lo_st G L i (z_i (x + n))) kk) (fun h1 h2 => z_RvS (show z_R (x + n) from hr) h1) (fun _ h => h) k
theorem z_iadd {x y : Int} (hd : decode M.2.1 pc = .ok (.iadd, 1)) (hr : z_R (x + y)) (k : z_Sem M nz (pc + 1) L (z_i (x + y) :: st) σ Q) : z_Sem M nz pc L (z_i y :: z_i x :: st) σ Q :=
  z_pure (fun _ _ _ _ _ _ _ _ _ _ _ _ _ ls hX _ _ _ hl kk => lv_iadd hX.1 hX.2.1 hd (by rw [← Int32.ofInt_add]; exact kk ls hl)) (fun h _ => h) (fun _ h => z_RvI hr (z_RvC (z_RvC h).2).2) k
theorem z_isub {x y : Int} (hd : decode M.2.1 pc = .ok (.isub, 1)) (hr : z_R (x - y)) (k : z_Sem M nz (pc + 1) L (z_i (x - y) :: st) σ Q) : z_Sem M nz pc L (z_i y :: z_i x :: st) σ Q :=
  z_pure (fun _ _ _ _ _ _ _ _ _ _ _ _ _ ls hX _ _ _ hl kk => lv_isub hX.1 hX.2.1 hd (by rw [← Int32.ofInt_sub]; exact kk ls hl)) (fun h _ => h) (fun _ h => z_RvI hr (z_RvC (z_RvC h).2).2) k
theorem z_imul {x y : Int} (hd : decode M.2.1 pc = .ok (.imul, 1)) (hr : z_R (x * y)) (k : z_Sem M nz (pc + 1) L (z_i (x * y) :: st) σ Q) : z_Sem M nz pc L (z_i y :: z_i x :: st) σ Q :=
  z_pure (fun _ _ _ _ _ _ _ _ _ _ _ _ _ ls hX _ _ _ hl kk => lv_imul hX.1 hX.2.1 hd (by rw [← Int32.ofInt_mul]; exact kk ls hl)) (fun h _ => h) (fun _ h => z_RvI hr (z_RvC (z_RvC h).2).2) k
theorem z_ineg {x : Int} (hd : decode M.2.1 pc = .ok (.ineg, 1)) (hr : z_R (-x)) (k : z_Sem M nz (pc + 1) L (z_i (-x) :: st) σ Q) : z_Sem M nz pc L (z_i x :: st) σ Q :=
  z_pure (fun _ _ _ _ _ _ _ _ _ _ _ _ _ ls hX _ _ _ hl kk => lv_ineg hX.1 hX.2.1 hd (by rw [← Int32.ofInt_neg]; exact kk ls hl)) (fun h _ => h) (fun _ h => z_RvI hr (z_RvC h).2) k
theorem z_tdR {x y : Int} (hx : z_R x) (h0 : 0 < y) : z_R (x.tdiv y) := by
  have hx1 := hx.1
  have hx2 := hx.2
  rcases Int.le_total 0 x with h | h
  · rw [Int.tdiv_eq_ediv_of_nonneg h]
    have h1 := Int.ediv_nonneg h (Int.le_of_lt h0)
    have h2 := Int.ediv_le_self y h
    constructor <;> omega
  · have h3 : x.tdiv y = -((-x) / y) := by
      have h4 : (-x).tdiv y = -(x.tdiv y) := Int.neg_tdiv _ _
      rw [← Int.tdiv_eq_ediv_of_nonneg (by omega : 0 ≤ -x), h4]
      omega
    rw [h3]
    have h1 := Int.ediv_nonneg (by omega : 0 ≤ -x) (Int.le_of_lt h0)
    have h2 := Int.ediv_le_self y (by omega : 0 ≤ -x)
    constructor <;> omega
theorem z_div32 {x y : Int} (hx : z_R x) (hy : z_R y) (h0 : 0 < y) : Int32.ofInt x / Int32.ofInt y = Int32.ofInt (x.tdiv y) := by
  apply Int32.toInt_inj.mp
  have h2 := z_tdR hx h0
  rw [Int32.toInt_div, z_toInt hx, z_toInt hy, z_toInt h2]
  exact Int.bmod_eq_of_le (by have := h2.1; omega) (by have := h2.2; omega)
theorem z_idiv {x y : Int} (hd : decode M.2.1 pc = .ok (.idiv, 1)) (hy : 0 < y) (k : z_Sem M nz (pc + 1) L (z_i (x.tdiv y) :: st) σ Q) : z_Sem M nz pc L (z_i y :: z_i x :: st) σ Q := by
  refine z_pure ?_ (fun h _ => h) (fun _ h => z_RvI (z_tdR (z_RvC (z_RvC h).2).1 hy) (z_RvC (z_RvC h).2).2) k
  intro G p l e s m args below meth c Z H locs ls hX hP hL hS hl kk
  have hy' : z_R y := (z_RvC hS).1
  have hx' : z_R x := (z_RvC (z_RvC hS).2).1
  refine lv_idiv hX.1 hX.2.1 hd (fun h => ?_) (by rw [z_div32 hx' hy' hy]; exact kk ls hl)
  rw [z_of0, z_eq hy' z_zero] at h
  omega
theorem z_irem {x y : Int} (hd : decode M.2.1 pc = .ok (.irem, 1)) (hy : 0 < y) (k : z_Sem M nz (pc + 1) L (z_i (x.tmod y) :: st) σ Q) : z_Sem M nz pc L (z_i y :: z_i x :: st) σ Q := by
  refine z_pure ?_ (fun h _ => h) (fun _ h => z_RvI ?_ (z_RvC (z_RvC h).2).2) k
  · intro G p l e s m args below meth c Z H locs ls hX hP hL hS hl kk
    have hy' : z_R y := (z_RvC hS).1
    have hx' : z_R x := (z_RvC (z_RvC hS).2).1
    refine lv_irem hX.1 hX.2.1 hd (fun h => ?_) (by rw [z_div32 hx' hy' hy, ← Int32.ofInt_mul, ← Int32.ofInt_sub, show x - x.tdiv y * y = x.tmod y by rw [Int.tmod_def, Int.mul_comm]]; exact kk ls hl)
    rw [z_of0, z_eq hy' z_zero] at h
    omega
  · have hy' : z_R y := (z_RvC h).1
    have h3 := Int.lt_tmod_of_pos x hy
    have h4 := Int.tmod_lt_of_pos x hy
    have hy2 := hy'.2
    show z_R (x.tmod y)
    constructor <;> omega
theorem z_Rto (x : Int32) : z_R x.toInt := by
  have h1 := Int32.le_toInt x
  have h2 := Int32.toInt_lt x
  constructor <;> omega
def z_and (x y : Int) : Int := (Int32.ofInt x &&& Int32.ofInt y).toInt
def z_xor (x y : Int) : Int := (Int32.ofInt x ^^^ Int32.ofInt y).toInt
def z_shr (x y : Int) : Int := (Int32.ofInt x >>> (Int32.ofInt y &&& 31)).toInt
def z_ushr (x y : Int) : Int := ((Int32.ofInt x).toUInt32 >>> ((Int32.ofInt y).toUInt32 &&& Int32.toUInt32 31)).toInt32.toInt
def z_i2bv (x : Int) : Int := (Int32.ofInt x).toInt8.toInt32.toInt
def z_i2cv (x : Int) : Int := ((Int32.ofInt x).toUInt32 % 65536).toInt32.toInt
theorem z_iand {x y : Int} (hd : decode M.2.1 pc = .ok (.iand, 1)) (k : z_Sem M nz (pc + 1) L (z_i (z_and x y) :: st) σ Q) : z_Sem M nz pc L (z_i y :: z_i x :: st) σ Q :=
  z_pure (fun _ _ _ _ _ _ _ _ _ _ _ _ _ ls hX _ _ _ hl kk => lv_iand hX.1 hX.2.1 hd (by have h := kk ls hl; simp only [List.map_cons, z_cv, z_and, Int32.ofInt_toInt] at h; exact h)) (fun h _ => h) (fun _ h => z_RvI (z_Rto _) (z_RvC (z_RvC h).2).2) k
theorem z_ixor {x y : Int} (hd : decode M.2.1 pc = .ok (.ixor, 1)) (k : z_Sem M nz (pc + 1) L (z_i (z_xor x y) :: st) σ Q) : z_Sem M nz pc L (z_i y :: z_i x :: st) σ Q :=
  z_pure (fun _ _ _ _ _ _ _ _ _ _ _ _ _ ls hX _ _ _ hl kk => lv_ixor hX.1 hX.2.1 hd (by have h := kk ls hl; simp only [List.map_cons, z_cv, z_xor, Int32.ofInt_toInt] at h; exact h)) (fun h _ => h) (fun _ h => z_RvI (z_Rto _) (z_RvC (z_RvC h).2).2) k
theorem z_ishr {x y : Int} (hd : decode M.2.1 pc = .ok (.ishr, 1)) (k : z_Sem M nz (pc + 1) L (z_i (z_shr x y) :: st) σ Q) : z_Sem M nz pc L (z_i y :: z_i x :: st) σ Q :=
  z_pure (fun _ _ _ _ _ _ _ _ _ _ _ _ _ ls hX _ _ _ hl kk => lv_ishr hX.1 hX.2.1 hd (by have h := kk ls hl; simp only [List.map_cons, z_cv, z_shr, Int32.ofInt_toInt] at h; exact h)) (fun h _ => h) (fun _ h => z_RvI (z_Rto _) (z_RvC (z_RvC h).2).2) k
theorem z_iushr {x y : Int} (hd : decode M.2.1 pc = .ok (.iushr, 1)) (k : z_Sem M nz (pc + 1) L (z_i (z_ushr x y) :: st) σ Q) : z_Sem M nz pc L (z_i y :: z_i x :: st) σ Q :=
  z_pure (fun _ _ _ _ _ _ _ _ _ _ _ _ _ ls hX _ _ _ hl kk => lv_iushr hX.1 hX.2.1 hd rfl (by have h := kk ls hl; simp only [List.map_cons, z_cv, z_ushr, Int32.ofInt_toInt] at h; exact h)) (fun h _ => h) (fun _ h => z_RvI (z_Rto _) (z_RvC (z_RvC h).2).2) k
theorem z_i2b {x : Int} (hd : decode M.2.1 pc = .ok (.i2b, 1)) (k : z_Sem M nz (pc + 1) L (z_i (z_i2bv x) :: st) σ Q) : z_Sem M nz pc L (z_i x :: st) σ Q :=
  z_pure (fun _ _ _ _ _ _ _ _ _ _ _ _ _ ls hX _ _ _ hl kk => lv_i2b hX.1 hX.2.1 hd rfl (by have h := kk ls hl; simp only [List.map_cons, z_cv, z_i2bv, Int32.ofInt_toInt] at h; exact h)) (fun h _ => h) (fun _ h => z_RvI (z_Rto _) (z_RvC h).2) k
theorem z_i2c {x : Int} (hd : decode M.2.1 pc = .ok (.i2c, 1)) (k : z_Sem M nz (pc + 1) L (z_i (z_i2cv x) :: st) σ Q) : z_Sem M nz pc L (z_i x :: st) σ Q :=
  z_pure (fun _ _ _ _ _ _ _ _ _ _ _ _ _ ls hX _ _ _ hl kk => lv_i2c hX.1 hX.2.1 hd rfl (by have h := kk ls hl; simp only [List.map_cons, z_cv, z_i2cv, Int32.ofInt_toInt] at h; exact h)) (fun h _ => h) (fun _ h => z_RvI (z_Rto _) (z_RvC h).2) k
theorem z_dup {x : z_V} (hd : decode M.2.1 pc = .ok (.dup, 1)) (h1 : z_c2 x = false) (k : z_Sem M nz (pc + 1) L (x :: x :: st) σ Q) : z_Sem M nz pc L (x :: st) σ Q :=
  z_pure (fun G _ _ _ _ _ _ _ _ _ _ _ _ ls hX _ _ _ hl kk => lv_dup hX.1 hX.2.1 hd (by rcases x with x | x | x | x | (_ | x) <;> first | rfl | cases h1) (kk ls hl)) (fun h _ => h) (fun _ h => z_RvM (z_RvC h).1 h) k
theorem z_pop {x : z_V} (hd : decode M.2.1 pc = .ok (.pop, 1)) (h1 : z_c2 x = false) (k : z_Sem M nz (pc + 1) L st σ Q) : z_Sem M nz pc L (x :: st) σ Q :=
  z_pure (fun G _ _ _ _ _ _ _ _ _ _ _ _ ls hX _ _ _ hl kk => lv_pop hX.1 hX.2.1 hd (by rcases x with x | x | x | x | (_ | x) <;> first | rfl | cases h1) (kk ls hl)) (fun h _ => h) (fun _ h => (z_RvC h).2) k
theorem z_goto {off : Int} {tgt : Nat} (hd : decode M.2.1 pc = .ok (.goto off, 3)) (ht : (pc : Int) + off = (tgt : Int)) (k : z_Sem M nz tgt L st σ Q) : z_Sem M nz pc L st σ Q :=
  z_pure (fun G _ _ _ _ _ _ _ _ _ _ _ _ ls hX _ _ _ hl kk => lv_goto hX.1 hX.2.1 hd ht (kk ls hl)) (fun h _ => h) (fun _ h => h) k
end ZRULES
