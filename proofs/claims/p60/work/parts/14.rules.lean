section ZRULES3
variable {M : z_M} {nz : Nat × Nat} {pc : Nat} {L : List (Nat × z_V)} {st : List z_V} {σ : z_S} {Q : Option z_V → z_S → Prop}
/-- the end -/
theorem z_ret {v : Option z_V} {ins : Instr} (hd : decode M.2.1 pc = .ok (ins, 1)) (hrk : z_rk M.2.2.2.1 v ins) (hst : st = v.toList) (k : Q v σ) : z_Sem M nz pc L st σ Q := by
  intro G p l e s m args below meth c Z H locs ls hX hZ hP hL hS hl hc
  subst hst
  exact hZ G v σ H locs nz.2 pc ls ins (z_ag.rf _ _ _) k hP (fun x hx => hS x (by rw [hx]; simp)) hc.1 hc.2 hrk hd
theorem z_objInit {a idx : Nat} (hlk : Cond.methodLink M.1.cls idx Lib.objectInit ∈ z_tb) (hin : Cond.instanceMethod Lib.objectInit ∈ z_tb) (hco : Cond.code Lib.objectInit ⟨#[0xb1]⟩ 1 none ∈ z_tb) (hrm : 1 ≤ M.2.2.2.2.frames ∧ z_wds st + 12 ≤ M.2.2.2.2.locals) (hd : decode M.2.1 pc = .ok (.invokespecial idx, 3)) (kk : z_Sem M nz (pc + 3) L st σ Q) : z_Sem M nz pc L (z_r a :: st) σ Q := by
  intro G p l e s m args below meth c Z H locs ls hX hZ hP hL hS hl hc
  have ht := hX.2.2.2.2.2.1
  refine W.objInit (g := F0 m pc ls ((z_r a :: st).map (z_cv G))) (rest := st.map (z_cv G)) hX.1 hX.2.1 hX.2.2.2.2.1 (ht _ hlk) (ht _ hin) (ht _ hco) rfl (by rw [hX.2.2.2.1]; exact hl.1) rfl hd hrm.1 (by rw [z_wds_cat]; show 2 * 0 + _ + _ ≤ _; omega) ?_
  exact kk G p l e s m args below meth c Z H locs ls hX hZ hP hL (z_RvC hS).2 hl hc
/-! NAMES: which are there -/
def z_vv (n : Nat) : z_V → Prop
  | .inr (.inl a) => a < n ∨ 1000 ≤ a
  | _ => True
def z_vo (n : Nat) (o : Option (Option Nat)) : Prop := ∀ a, o = some (some a) → (a < n ∨ 1000 ≤ a)
def z_vc (n : Nat) : z_C → Prop
  | .inl (_, fl) => ∀ o ∈ fl, z_vo n o
  | .inr (.inl _) => True
  | .inr (.inr rs) => ∀ o ∈ rs, z_vo n (some o)
/-- all references of a memory's shape lead into it -/
def z_cl1 (n : Nat) (sh : List z_C) : Prop := ∀ c ∈ sh, z_vc n c
abbrev z_cls0 (sh : List z_C) : Prop := z_cl1 sh.length sh
abbrev z_lv (n : Nat) (L : List (Nat × z_V)) : Prop := ∀ q ∈ L, z_vv n q.2
abbrev z_sv1 (n : Nat) (st : List z_V) : Prop := ∀ q ∈ st, z_vv n q
/-- the same addresses for names below n and for what was there before -/
def z_sm1 (n : Nat) (G G' : z_G) : Prop := (∃ f : Nat → Nat, G' = z_wa G f) ∧ ∀ a : Nat, (a < n ∨ 1000 ≤ a) → z_ad G' a = z_ad G a
theorem z_ag.sm {c0 n0 : Nat} {G G' : z_G} (h : z_ag c0 n0 G G') : z_sm1 n0 G G' := by
  obtain ⟨f, rfl, h2, -⟩ := h
  exact ⟨⟨f, rfl⟩, h2⟩
theorem z_sm1.ag {c0 n n0 : Nat} {G G' : z_G} (h : z_sm1 n G G') (hc : c0 ≠ 0) (hn : n0 ≤ n) : z_ag c0 n0 G G' := by
  obtain ⟨⟨f, rfl⟩, h2⟩ := h
  exact ⟨f, rfl, fun a ha => h2 a (by omega), fun h => absurd h hc⟩
theorem z_sm1.le {n n' : Nat} {G G' : z_G} (h : z_sm1 n G G') (hn : n' ≤ n) : z_sm1 n' G G' := ⟨h.1, fun a ha => h.2 a (by omega)⟩
theorem z_ag.trans {c0 n0 : Nat} {G G1 G2 : z_G} (h1 : z_ag c0 n0 G G1) (h2 : z_ag c0 n0 G1 G2) : z_ag c0 n0 G G2 := by
  obtain ⟨f, rfl, a1, b1⟩ := h1
  obtain ⟨g, rfl, a2, b2⟩ := h2
  exact ⟨g, rfl, fun a ha => (a2 a ha).trans (a1 a ha), fun h => (b2 h).trans (b1 h)⟩
theorem z_cv_vv {n : Nat} {G G' : z_G} (h : z_sm1 n G G') {v : z_V} (hv : z_vv n v) : z_cv G' v = z_cv G v := by
  rcases v with x | x | x | x | x
  · rfl
  · show Value.ref _ = Value.ref _
    rw [h.2 x hv]
  · rfl
  · rfl
  · rfl
theorem z_st_vv {n : Nat} {G G' : z_G} (h : z_sm1 n G G') {st : List z_V} (hv : z_sv1 n st) : st.map (z_cv G') = st.map (z_cv G) := List.map_congr_left (fun v hm => z_cv_vv h (hv v hm))
theorem z_lo_vv {n : Nat} {G G' : z_G} (h : z_sm1 n G G') {L : List (Nat × z_V)} (hv : z_lv n L) : z_lo G' L = z_lo G L := List.map_congr_left (fun q hm => by rw [z_cv_vv h (hv q hm)])
theorem z_fld_vo {n : Nat} {G G' : z_G} (h : z_sm1 n G G') {o : Option (Option Nat)} (ho : z_vo n o) (f : Int → Int) (k : Nat) : z_fld G' f k o = z_fld G f k o := by
  rcases o with _ | _ | a
  · rfl
  · rfl
  · show Value.ref _ = Value.ref _
    rw [h.2 a (ho a rfl)]
theorem z_cell_vc {n : Nat} {G G' : z_G} (h : z_sm1 n G G') {c : z_C} (hc : z_vc n c) (f : Int → Int) : z_cell G' f c = z_cell G f c := by
  have h1 : G'.2.1 = G.2.1 := by obtain ⟨⟨g, rfl⟩, -⟩ := h; rfl
  rcases c with ⟨ci, fl⟩ | ⟨kd, n⟩ | rs
  · show Sum.inr (ci, _) = Sum.inr (ci, _)
    congr 2
    apply List.ext_getElem?
    intro i
    simp only [List.getElem?_mapIdx]
    cases hi : fl[i]? with
    | none => rfl
    | some o =>
      simp only [Option.map_some]
      rw [z_fld_vo h (hc o (List.mem_of_getElem? hi))]
  · show Sum.inl (G'.2.1 kd, n, _) = Sum.inl (G.2.1 kd, n, _)
    rw [h1]
  · show Sum.inl (G'.2.1 3, rs.length, _) = Sum.inl (G.2.1 3, rs.length, _)
    rw [h1]
    congr 7
    funext j
    rw [List.getD_eq_getElem?_getD]
    cases hj : rs[j]? with
    | none => rfl
    | some o =>
      simp only [Option.getD_some]
      rcases o with _ | a
      · rfl
      · show some (z_ad G' a) = some (z_ad G a)
        rw [h.2 a (hc (some a) (List.mem_of_getElem? hj) a rfl)]
theorem z_O.sm {n : Nat} {G G' : z_G} (h : z_sm1 n G G') {U : State} {H : Heap} (hO : z_O G U H) : z_O G' U H := by
  obtain ⟨⟨f, rfl⟩, h2⟩ := h
  obtain ⟨⟨h1, h1b⟩, h3, h4, h5, h6, h7, h8, h9⟩ := hO
  have e : ∀ a : Nat, 1000 ≤ a → z_ad (z_wa G f) a = z_ad G a := fun a ha => h2 a (Or.inr ha)
  refine ⟨⟨by rw [e 1000 (by omega)]; exact h1, by rw [e 1000 (by omega)]; exact h1b⟩, fun i hi => ?_, fun i q hq => ?_, h5, h6, h7, ?_, ?_⟩
  · rw [e (1001 + i) (by omega), e (1101 + i) (by omega)]; exact h3 i hi
  · rw [e (1001 + i) (by omega)]; exact h4 i q hq
  · rw [e 1201 (by omega)]; exact h8
  · rw [e 1202 (by omega)]; exact h9
theorem z_X.sm {n n0 : Nat} {G G' : z_G} (h : z_sm1 n G G') {p : Program} {s : State} {m : MethodId} {args : Array Value} {meth : Method} {c : Code} (hX : z_X G M n0 p s m args meth c) : z_X G' M n0 p s m args meth c := by
  have h2 := h
  obtain ⟨⟨f, rfl⟩, -⟩ := h2
  obtain ⟨a1, a2, a3, a4, a5, a6, a7, a8, a9, b1, b2⟩ := hX
  exact ⟨a1, a2, a3, a4, a5, a6, a7, a8, a9, b1.sm h, b2⟩
theorem z_Z.ag {n0 : Nat} {G G' : z_G} (h : z_ag M.2.2.2.2.cells n0 G G') {p : Program} {l : Launch} {e : Env} {s : State} {m : MethodId} {args : Array Value} {below : List Frame} {meth : Method} {c : Code} {Z : State → Prop} (hZ : z_Z G M n0 p l e s m args below meth c Z Q) : z_Z G' M n0 p l e s m args below meth c Z Q :=
  fun G2 v σ' H' locs' z' pc ls' ins hag => hZ G2 v σ' H' locs' z' pc ls' ins (h.trans hag)
/-! NEW CELLS -/
/-- memory with a new cell -/
def z_nw (σ : z_S) (c : z_C) : z_S := (σ.1 ++ [c], fun b => if b = σ.1.length then fun _ => 0 else σ.2 b)
/-- one more name -/
def z_nG (G : z_G) (n q : Nat) : z_G := z_wa G (fun a => if a = n then q else z_ad G a)
theorem z_nG_sm {G : z_G} {n q : Nat} (hn : n < 1000) : z_sm1 n G (z_nG G n q) := ⟨⟨_, rfl⟩, fun a ha => by show (if a = n then q else z_ad G a) = z_ad G a; rw [if_neg (by omega)]⟩
theorem z_nG_at {G : z_G} {n q : Nat} : z_ad (z_nG G n q) n = q := if_pos rfl
theorem z_nG_cell {G : z_G} {n q : Nat} {f : Int → Int} {c : z_C} (hn : n < 1000) (hc : z_vc n c) : z_cell (z_nG G n q) f c = z_cell G f c := z_cell_vc (z_nG_sm hn) hc f
theorem z_Pnw {G : z_G} {σ : z_S} {s : State} {H H1 : Heap} {locs : List Loc} (hP : z_P G σ s H locs) (c : z_C) (hlen : σ.1.length < 1000) (hlo : z_cls0 σ.1) (hc : z_vc σ.1.length c) (hown : ∀ q : Nat, s.heap.size ≤ q → G.2.2.1 q) (hz : H.size ≤ H1.size) (ho : ∀ q : Nat, q < H.size → H1[q]? = H[q]?) (hn : va_at G.1 z_Cl (H.size, z_cell G (fun _ => 0) c) H1) : z_P (z_nG G σ.1.length H.size) (z_nw σ c) s H1 locs := by
  have hS1 : va_S G.2.2.1 s.heap H1 locs := ⟨Nat.le_trans hP.2.1 hz, fun x h1 h2 => (ho x (Nat.lt_of_lt_of_le h1 hP.2.1)).trans (hP.2.2.1 x h1 h2), hP.2.2.2⟩
  have hsz := hP.2.1
  obtain ⟨⟨h1, h2, h3, h4, h5, h6, h7⟩, h8⟩ := hP
  have hle : (z_nw σ c).1.length = σ.1.length + 1 := by simp [z_nw]
  have hlt : ∀ i : Nat, i < σ.1.length → z_ad G i < H.size := fun i hi => by
    have e1 := List.getElem?_eq_getElem hi
    exact (h1 i _ (z_ws_get (G := G) e1)).lt
  have hsm := z_nG_sm (G := G) (q := H.size) hlen
  have had : ∀ i : Nat, i < σ.1.length → z_ad (z_nG G σ.1.length H.size) i = z_ad G i := fun i hi => hsm.2 i (Or.inl hi)
  refine ⟨⟨fun k q hk => ?_, by rw [hle]; omega, fun b i => ?_, fun j hj => ?_, ?_, fun i hi => ?_, fun i j hi hj hij => ?_⟩, hS1⟩
  · simp only [z_ws, List.getElem?_mapIdx, Option.map_eq_some_iff] at hk
    obtain ⟨d, hd, rfl⟩ := hk
    have hkl := (List.getElem?_eq_some_iff.mp hd).1
    rw [hle] at hkl
    rcases Nat.lt_or_ge k σ.1.length with hk1 | hk1
    · have hd1 : σ.1[k]? = some d := by
        have : (σ.1 ++ [c])[k]? = σ.1[k]? := List.getElem?_append_left hk1
        rw [← this]; exact hd
      have e1 := h1 k _ (z_ws_get (G := G) hd1)
      show va_at G.1 z_Cl (z_ad (z_nG G σ.1.length H.size) k, z_cell (z_nG G σ.1.length H.size) ((z_nw σ c).2 k) d) H1
      rw [had k hk1, z_nG_cell hlen (hlo d (List.mem_of_getElem? hd1)), show (z_nw σ c).2 k = σ.2 k from if_neg (by omega)]
      exact e1.kept (ho _ e1.lt)
    · have hk2 : k = σ.1.length := by omega
      subst hk2
      have hd1 : d = c := by
        have : (σ.1 ++ [c])[σ.1.length]? = some c := by simp
        exact Option.some.inj (hd.symm.trans this)
      subst hd1
      show va_at G.1 z_Cl (z_ad (z_nG G σ.1.length H.size) σ.1.length, z_cell (z_nG G σ.1.length H.size) ((z_nw σ d).2 σ.1.length) d) H1
      rw [z_nG_at, z_nG_cell hlen hc, show (z_nw σ d).2 σ.1.length = fun _ => 0 from if_pos rfl]
      exact hn
  · show z_R ((if b = σ.1.length then fun _ => 0 else σ.2 b) i)
    split
    · exact z_zero
    · exact h3 b i
  · show (if 1000 = σ.1.length then fun _ => 0 else σ.2 1000) (j : Int) = _
    rw [if_neg (by omega)]; exact h4 j hj
  · show (if 1001 = σ.1.length then fun _ => 0 else σ.2 1001) 0 = _
    rw [if_neg (by omega)]; exact h5
  · rw [hle] at hi
    rcases Nat.lt_or_ge i σ.1.length with hi1 | hi1
    · rw [had i hi1]; exact h6 i hi1
    · rw [show i = σ.1.length by omega, z_nG_at]; exact hown _ hsz
  · rw [hle] at hi hj
    rcases Nat.lt_or_ge i σ.1.length with hi1 | hi1 <;> rcases Nat.lt_or_ge j σ.1.length with hj1 | hj1
    · rw [had i hi1, had j hj1] at hij; exact h7 i j hi1 hj1 hij
    · rw [had i hi1, show j = σ.1.length by omega, z_nG_at] at hij
      have := hlt i hi1; omega
    · rw [had j hj1, show i = σ.1.length by omega, z_nG_at] at hij
      have := hlt j hj1; omega
    · omega
/-- a new cell with any contents, at any new address -/
def z_nwf (σ : z_S) (c : z_C) (f : Int → Int) : z_S := (σ.1 ++ [c], fun b => if b = σ.1.length then f else σ.2 b)
theorem z_Pnq {G : z_G} {σ : z_S} {s : State} {H1 : Heap} {locs : List Loc} {q : Nat} {H : Heap} (hP : z_P G σ s H locs) (c : z_C) (f : Int → Int) (hf : ∀ j, z_R (f j)) (hlen : σ.1.length < 1000) (hlo : z_cls0 σ.1) (hc : z_vc σ.1.length c) (h1 : va_P G.1 z_Cl (z_ws G σ ++ [(q, z_cell G f c)]) H1) (hD : va_D G.2.2.1 (z_ws G σ ++ [(q, z_cell G f c)])) (hS1 : va_S G.2.2.1 s.heap H1 locs) : z_P (z_nG G σ.1.length q) (z_nwf σ c f) s H1 locs := by
  obtain ⟨⟨-, h2, h3, h4, h5, h6, h7⟩, h8⟩ := hP
  have hle : (z_nwf σ c f).1.length = σ.1.length + 1 := by simp [z_nwf]
  have hsm := z_nG_sm (G := G) (q := q) hlen
  have had : ∀ i : Nat, i < σ.1.length → z_ad (z_nG G σ.1.length q) i = z_ad G i := fun i hi => hsm.2 i (Or.inl hi)
  have hwl : (z_ws G σ).length = σ.1.length := z_ws_len G σ
  have hws : ∀ i : Nat, ∀ d, σ.1[i]? = some d → (z_ws G σ ++ [(q, z_cell G f c)])[i]? = some (z_ad G i, z_cell G (σ.2 i) d) := fun i d hd => by
    have hi := (List.getElem?_eq_some_iff.mp hd).1
    rw [List.getElem?_append_left (by omega)]
    exact z_ws_get hd
  have hlast : (z_ws G σ ++ [(q, z_cell G f c)])[σ.1.length]? = some (q, z_cell G f c) := by rw [List.getElem?_append_right (by omega), hwl]; simp
  refine ⟨⟨fun k x hk => ?_, by rw [hle]; omega, fun b i => ?_, fun j hj => ?_, ?_, fun i hi => ?_, fun i j hi hj hij => ?_⟩, hS1⟩
  · simp only [z_ws, List.getElem?_mapIdx, Option.map_eq_some_iff] at hk
    obtain ⟨d, hd, rfl⟩ := hk
    have hkl := (List.getElem?_eq_some_iff.mp hd).1
    rw [hle] at hkl
    rcases Nat.lt_or_ge k σ.1.length with hk1 | hk1
    · have hd1 : σ.1[k]? = some d := by
        have : (σ.1 ++ [c])[k]? = σ.1[k]? := List.getElem?_append_left hk1
        rw [← this]; exact hd
      have e1 := h1 k _ (hws k d hd1)
      show va_at G.1 z_Cl (z_ad (z_nG G σ.1.length q) k, z_cell (z_nG G σ.1.length q) ((z_nwf σ c f).2 k) d) H1
      rw [had k hk1, z_nG_cell hlen (hlo d (List.mem_of_getElem? hd1)), show (z_nwf σ c f).2 k = σ.2 k from if_neg (by omega)]
      exact e1
    · have hk2 : k = σ.1.length := by omega
      subst hk2
      have hd1 : d = c := by
        have : (σ.1 ++ [c])[σ.1.length]? = some c := by simp
        exact Option.some.inj (hd.symm.trans this)
      subst hd1
      show va_at G.1 z_Cl (z_ad (z_nG G σ.1.length q) σ.1.length, z_cell (z_nG G σ.1.length q) ((z_nwf σ d f).2 σ.1.length) d) H1
      rw [z_nG_at, z_nG_cell hlen hc, show (z_nwf σ d f).2 σ.1.length = f from if_pos rfl]
      exact h1 _ _ hlast
  · show z_R ((if b = σ.1.length then f else σ.2 b) i)
    split
    · exact hf i
    · exact h3 b i
  · show (if 1000 = σ.1.length then f else σ.2 1000) (j : Int) = _
    rw [if_neg (by omega)]; exact h4 j hj
  · show (if 1001 = σ.1.length then f else σ.2 1001) 0 = _
    rw [if_neg (by omega)]; exact h5
  · rw [hle] at hi
    rcases Nat.lt_or_ge i σ.1.length with hi1 | hi1
    · rw [had i hi1]; exact h6 i hi1
    · rw [show i = σ.1.length by omega, z_nG_at]; exact hD.2 _ _ hlast
  · rw [hle] at hi hj
    rcases Nat.lt_or_ge i σ.1.length with hi1 | hi1 <;> rcases Nat.lt_or_ge j σ.1.length with hj1 | hj1
    · rw [had i hi1, had j hj1] at hij; exact h7 i j hi1 hj1 hij
    · rw [had i hi1, show j = σ.1.length by omega, z_nG_at] at hij
      exact absurd (hD.1 i σ.1.length _ _ (hws i _ (List.getElem?_eq_getElem hi1)) hlast hij) (by omega)
    · rw [had j hj1, show i = σ.1.length by omega, z_nG_at] at hij
      exact absurd (hD.1 j σ.1.length _ _ (hws j _ (List.getElem?_eq_getElem hj1)) hlast hij.symm) (by omega)
    · omega
/-- goes on with one more name -/
theorem z_nwk {G : z_G} {p : Program} {l : Launch} {e : Env} {s : State} {m : MethodId} {args : Array Value} {below : List Frame} {meth : Method} {c : Code} {Z : State → Prop} {H H1 : Heap} {locs : List Loc} {ls : Array Slot} {N pc' : Nat} (c0 : z_C) (hX : z_X G M nz.1 p s m args meth c) (hZ : z_Z G M nz.1 p l e s m args below meth c Z Q) (hP : z_P G σ s H locs) (hL : ∀ q ∈ L, z_Rv q.2) (hS : ∀ q ∈ st, z_Rv q) (hl : lv_has ls M.2.2.1 (z_lo G L)) (hc : nz.1 ≤ σ.1.length)
    (hlen : σ.1.length < 1000) (hlo : z_cls0 σ.1) (hvc : z_vc σ.1.length c0) (hLv : z_lv σ.1.length L) (hSv : z_sv1 σ.1.length st) (hN : 1 ≤ N) (hcc : nz.2 + N ≤ M.2.2.2.2.cells ∧ nz.2 + N ≤ M.2.2.2.2.slots) (hz : H.size ≤ H1.size) (ho : ∀ q : Nat, q < H.size → H1[q]? = H[q]?) (hn : va_at G.1 z_Cl (H.size, z_cell G (fun _ => 0) c0) H1)
    (kk : z_Sem M (nz.1, nz.2 + N) pc' L (z_r σ.1.length :: st) (z_nw σ c0) Q) : W p l e M.2.2.2.2 s m args below meth c H1 locs (nz.2 + 1) (nz.2 + N) Z (F0 m pc' ls (.ref H.size :: st.map (z_cv G))) := by
  have hsm := z_nG_sm (G := G) (q := H.size) hlen
  have hag : z_ag M.2.2.2.2.cells nz.1 G (z_nG G σ.1.length H.size) := hsm.ag (by omega) hc
  have hle : (z_nw σ c0).1.length = σ.1.length + 1 := by simp [z_nw]
  have h9 := kk (z_nG G σ.1.length H.size) p l e s m args below meth c Z H1 locs ls (hX.sm hsm) (hZ.ag hag) (z_Pnw hP c0 hlen hlo hvc hX.2.2.2.2.2.2.2.2.2.2 hz ho hn) hL (z_RvN hS) (by rw [z_lo_vv hsm hLv]; exact hl) ⟨by rw [hle]; show nz.1 ≤ _; omega, hcc⟩
  rw [List.map_cons, z_st_vv hsm hSv, show z_cv (z_nG G σ.1.length H.size) (z_r σ.1.length) = .ref H.size by show Value.ref (z_ad _ _) = _; rw [z_nG_at]] at h9
  exact W.widen (by omega) (Nat.le_refl _) h9
theorem z_new {idx ci : Nat} {C : String} {T : u_T} {N : Nat} {ty : Nat → FieldType} {fl : List (Option (Option Nat))} (hcl : z_cls ci C T N ty) (hlk : Cond.classLink M.1.cls idx C ∈ z_tb) (hins : Cond.instantiable C N ∈ z_tb) (hini : Cond.initialized C ∈ z_tb) (hfl : fl.length = N ∧ ∀ j, j < N → (fl[j]? = some none ∧ defaultValue (ty j) = .int 0) ∨ (fl[j]? = some (some none) ∧ defaultValue (ty j) = .null)) (hlen : σ.1.length < 1000) (hlo : z_cls0 σ.1) (hLv : z_lv σ.1.length L) (hSv : z_sv1 σ.1.length st) (hN : 1 ≤ N)
    (hcc : nz.2 + N ≤ M.2.2.2.2.cells ∧ nz.2 + N ≤ M.2.2.2.2.slots) (hd : decode M.2.1 pc = .ok (.new idx, 3)) (kk : z_Sem M (nz.1, nz.2 + N) (pc + 3) L (z_r σ.1.length :: st) (z_nw σ (.inl (ci, fl))) Q) : z_Sem M nz pc L st σ Q := by
  intro G p l e s m args below meth c Z H locs ls hX hZ hP hL hS hl hc
  obtain ⟨c1, c2, c3, c4⟩ := hcl
  have ht := hX.2.2.2.2.2.1
  have hKn := hX.2.2.2.2.2.2.2.2.1.1 ci _ c1
  refine W.newcK hX.1 hX.2.1 hX.2.2.2.2.1 (ht _ hlk) (ht _ hins) (ht _ hini) rfl hd (by omega) hcc.2 hKn.2.1 rfl fun H1 kC hkC e1 z1 o1 => ?_
  have hb := u_born ty ht c2 hKn hkC e1 c3
  refine z_nwk (.inl (ci, fl)) hX hZ hP hL hS hl hc.1 hlen hlo ?_ hLv hSv hN hcc (by omega) o1 ?_ kk
  · intro o ho a ha
    obtain ⟨j, hj⟩ := List.getElem?_of_mem ho
    have hjl := (List.getElem?_eq_some_iff.mp hj).1
    rcases hfl.2 j (by omega) with ⟨q, -⟩ | ⟨q, -⟩ <;> (rw [hj, ha] at q; cases q)
  · refine ⟨_, c1, ?_⟩
    refine hb.to (fun j hj => ?_)
    rcases hfl.2 j hj with ⟨h1, h2⟩ | ⟨h1, h2⟩
    · rw [h2]
      simp [vp_V, List.getD_eq_getElem?_getD, List.getElem?_mapIdx, h1, z_fld]
    · rw [h2]
      simp [vp_V, List.getD_eq_getElem?_getD, List.getElem?_mapIdx, h1, z_fld]
theorem z_cls1 {s : State} {t : String} {a b : ClassId} (h1 : s.vm.findClass t = some a) (h2 : s.vm.findClass t = some b) : a = b := Option.some.inj (h1.symm.trans h2)
theorem z_newa {at0 : ArrayType} {kd N : Nat} (hkd : (kd = 0 ∧ at0 = .int) ∨ (kd = 1 ∧ at0 = .boolean) ∨ (kd = 2 ∧ at0 = .byte)) (hw : Cond.arrayClass (newarray.typeOf at0) ∈ z_tb) (hNb : N * 4 ≤ 536870912) (hlen : σ.1.length < 1000) (hlo : z_cls0 σ.1) (hLv : z_lv σ.1.length L) (hSv : z_sv1 σ.1.length st) (hN : 1 ≤ N)
    (hcc : nz.2 + N ≤ M.2.2.2.2.cells ∧ nz.2 + N ≤ M.2.2.2.2.slots) (hd : decode M.2.1 pc = .ok (.newarray at0, 2)) (kk : z_Sem M (nz.1, nz.2 + N) (pc + 2) L (z_r σ.1.length :: st) (z_nw σ (.inr (.inl (kd, N)))) Q) : z_Sem M nz pc L (z_i (N : Int) :: st) σ Q := by
  intro G p l e s m args below meth c Z H locs ls hX hZ hP hL hS hl hc
  have ht := hX.2.2.2.2.2.1
  have hN' : z_R (N : Int) := ⟨by omega, by omega⟩
  have hn0 : ¬ Int32.ofInt (N : Int) < 0 := by rw [z_of0, z_lt hN' z_zero]; omega
  have hcl : (Int32.ofInt (N : Int)).toNatClampNeg = N := by rw [z_clamp hN']; omega
  have hdef : defaultValue (newarray.typeOf at0) = .int 0 := by rcases hkd with ⟨-, rfl⟩ | ⟨-, rfl⟩ | ⟨-, rfl⟩ <;> rfl
  refine va_newaK hX.1 hX.2.1 (ht _ hw) rfl hd rfl hn0 hcl (by rcases hkd with ⟨-, rfl⟩ | ⟨-, rfl⟩ | ⟨-, rfl⟩ <;> (simp only [newarray.typeOf, componentBytes]; omega)) (by omega) hcc.2 rfl fun H1 cA e1 z1 o1 hAr hNm => ?_
  have hcA : cA = G.2.1 kd := by
    have hK := hX.2.2.2.2.2.2.2.2.1.2
    rcases hkd with ⟨rfl, rfl⟩ | ⟨rfl, rfl⟩ | ⟨rfl, rfl⟩
    · exact z_cls1 hNm (hK 0 _ rfl).2
    · exact z_cls1 hNm (hK 1 _ rfl).2
    · exact z_cls1 hNm (hK 2 _ rfl).2
  subst hcA
  refine z_nwk (.inr (.inl (kd, N))) hX hZ hP hL (z_RvC hS).2 hl hc.1 hlen hlo True.intro hLv hSv hN hcc (by omega) o1 ?_ kk
  show H1[H.size]? = _
  rw [e1, hdef]
  rfl
theorem z_newq {idx N : Nat} (hlk : Cond.classLink M.1.cls idx "TimeGaps$Plan" ∈ z_tb) (hNb : N * 4 ≤ 536870912) (hlen : σ.1.length < 1000) (hlo : z_cls0 σ.1) (hLv : z_lv σ.1.length L) (hSv : z_sv1 σ.1.length st) (hN : 1 ≤ N)
    (hcc : nz.2 + N ≤ M.2.2.2.2.cells ∧ nz.2 + N ≤ M.2.2.2.2.slots) (hd : decode M.2.1 pc = .ok (.anewarray idx, 3)) (kk : z_Sem M (nz.1, nz.2 + N) (pc + 3) L (z_r σ.1.length :: st) (z_nw σ (.inr (.inr (List.replicate N none)))) Q) : z_Sem M nz pc L (z_i (N : Int) :: st) σ Q := by
  intro G p l e s m args below meth c Z H locs ls hX hZ hP hL hS hl hc
  have ht := hX.2.2.2.2.2.1
  have hN' : z_R (N : Int) := ⟨by omega, by omega⟩
  have hn0 : ¬ Int32.ofInt (N : Int) < 0 := by rw [z_of0, z_lt hN' z_zero]; omega
  have hcl : (Int32.ofInt (N : Int)).toNatClampNeg = N := by rw [z_clamp hN']; omega
  refine W.anew hX.1 hX.2.1 hX.2.2.2.2.1 (ht _ hlk) hX.2.2.2.2.2.2.2.2.2.1.2.2.2.2.1.2.use rfl hd rfl hn0 (by rw [hcl]; exact hNb) (by omega) (by rw [hcl]; exact hcc.2) fun cA kA comp f1 f2 f3 f4 => ?_
  rw [hcl]
  have hcA : cA = G.2.1 3 := by
    obtain ⟨kA', comp', -, -, -, g⟩ := (hX.2.2.2.2.2.2.2.2.1.2 3 _ rfl).2
    exact z_cls1 f1 g
  subst hcA
  generalize hH1 : H.push ({ cls := G.2.1 3, slots := Array.replicate N .null, vm := .none } : Cell) = H1
  have z1 : H1.size = H.size + 1 := by rw [← hH1, Array.size_push]
  have e1 : H1[H.size]? = some (arrV (G.2.1 3) N (fun _ => .null)) := by rw [← hH1, Array.getElem?_push_size, ← arrV_new]
  have o1 : ∀ q : Nat, q < H.size → H1[q]? = H[q]? := fun q hq => by rw [← hH1, Array.getElem?_push, if_neg (Nat.ne_of_lt hq)]
  refine z_nwk (.inr (.inr (List.replicate N none))) hX hZ hP hL (z_RvC hS).2 hl hc.1 hlen hlo ?_ hLv hSv hN hcc (by omega) o1 ?_ kk
  · intro o ho a ha
    rw [List.eq_of_mem_replicate ho] at ha
    cases ha
  · show H1[H.size]? = some (vp_cell _ (_, .inr (.inr (.inr (.inr _)))))
    rw [e1, vp_cell_q, List.length_replicate]
    congr 2
    funext j
    have : (List.replicate N (none : Option Nat)).getD j none = none := by
      rw [List.getD_eq_getElem?_getD, List.getElem?_replicate]
      split <;> rfl
    rw [this]
    rfl
theorem z_aast {a r : Nat} {rs : List (Option Nat)} {fl : List (Option (Option Nat))} {i : Int} (hd : decode M.2.1 pc = .ok (.aastore, 1)) (hs : σ.1[a]? = some (.inr (.inr rs))) (hv : σ.1[r]? = some (.inl (3, fl))) (hi : 0 ≤ i ∧ i < (rs.length : Int)) (kk : z_Sem M nz (pc + 1) L st (z_u σ a (.inr (.inr (rs.set i.toNat (some r)))) (σ.2 a)) Q) : z_Sem M nz pc L (z_r r :: z_i i :: z_r a :: st) σ Q := by
  intro G p l e s m args below meth c Z H locs ls hX hZ hP hL hS hl hc
  rw [List.map_cons, List.map_cons, List.map_cons, z_cvr hP hs, z_cvr hP hv]
  have hi' : z_R i := (z_RvC (z_RvC hS).2).1
  refine va_astq hX.1 hX.2.1 hX.2.2.2.2.2.2.2.2.1 hP.1.1 (z_D hP.1) hP.2 a 3 r 3 (z_ws_get hs) rfl (z_ws_get hv) (show z_Cl[3]? = some (RX3, TX3, 12) from rfl) (z_in hi' hi.1 hi.2) hd (fun H1 locs1 hP1 _ hS1 => ?_)
  rw [z_clamp hi'] at hP1
  have hee : va_up (fun j => (rs.getD j none).map (z_ad G)) i.toNat (some (z_ad G r)) = fun j => ((rs.set i.toNat (some r)).getD j none).map (z_ad G) := by
    funext j
    simp only [va_up, List.getD_eq_getElem?_getD]
    by_cases hj : j = i.toNat
    · subst hj
      rw [if_pos rfl, List.getElem?_set_self (by omega)]
      rfl
    · rw [if_neg hj, List.getElem?_set_ne (Ne.symm hj)]
  rw [hee] at hP1
  have hP2 := z_Pset (c := .inr (.inr (rs.set i.toNat (some r)))) (f := σ.2 a) hP hs (fun j => hP.1.2.2.1 a j) (H1 := H1) (by
    have h9 : z_cell G (σ.2 a) (.inr (.inr (rs.set i.toNat (some r)))) = .inl (G.2.1 3, rs.length, .inr (.inr (.inr (.inr (fun j => ((rs.set i.toNat (some r)).getD j none).map (z_ad G)))))) := by simp [z_cell]
    rw [h9]; exact hP1) hS1
  have h9 := kk G p l e s m args below meth c Z H1 locs1 ls hX hZ hP2 hL (z_RvC (z_RvC (z_RvC hS).2).2).2 hl (by simpa [z_u] using hc)
  exact h9
theorem z_copyK {kd : Nat} {ty : FieldType} (hty : (kd = 0 ∧ ty = .int) ∨ (kd = 2 ∧ ty = .byte)) {a0 a n0 n1 idx : Nat} {sp dp n : Int} (hfit : ∀ i : Int, sp ≤ i → i < sp + n → fits ty (.int (Int32.ofInt (σ.2 a0 i))) = true) (hlk : Cond.methodLink M.1.cls idx arraycopyName ∈ z_tb) (hnat : Cond.native arraycopyName ∈ z_tb) (hstt : Cond.static arraycopyName ∈ z_tb) (hini : Cond.initialized "java/lang/System" ∈ z_tb) (hs0 : σ.1[a0]? = some (.inr (.inl (kd, n0)))) (hs : σ.1[a]? = some (.inr (.inl (kd, n1)))) (h1 : 0 ≤ sp ∧ 0 ≤ dp ∧ 0 ≤ n) (h2 : sp + n ≤ (n0 : Int) ∧ dp + n ≤ (n1 : Int))
    (hrm : 1 ≤ M.2.2.2.2.frames ∧ z_wds st + (nativeFrameWords "java/lang/System" "arraycopy" 5 + 11) ≤ M.2.2.2.2.locals) (hd : decode M.2.1 pc = .ok (.invokestatic idx, 3)) (kk : z_Sem M nz (pc + 3) L st (z_cp σ a0 sp a dp n) Q) : z_Sem M nz pc L (z_i n :: z_i dp :: z_r a :: z_i sp :: z_r a0 :: st) σ Q := by
  intro G p l e s m args below meth c Z H locs ls hX hZ hP hL hS hl hc
  have ht := hX.2.2.2.2.2.1
  simp only [List.map_cons]
  rw [z_cvr hP hs, z_cvr hP hs0]
  have hn' : z_R n := (z_RvC hS).1
  have hdp' : z_R dp := (z_RvC (z_RvC hS).2).1
  have hsp' : z_R sp := (z_RvC (z_RvC (z_RvC (z_RvC hS).2).2).2).1
  have g1 : ¬ Int32.ofInt sp < 0 := by rw [z_of0, z_lt hsp' z_zero]; omega
  have g2 : ¬ Int32.ofInt dp < 0 := by rw [z_of0, z_lt hdp' z_zero]; omega
  have g3 : ¬ Int32.ofInt n < 0 := by rw [z_of0, z_lt hn' z_zero]; omega
  have htk : (z_tys G)[kd]? = some (G.2.1 kd, ty) := by rcases hty with ⟨rfl, rfl⟩ | ⟨rfl, rfl⟩ <;> rfl
  have hpr : refKind ty = false := by rcases hty with ⟨rfl, rfl⟩ | ⟨rfl, rfl⟩ <;> rfl
  refine va_copyi (ty := ty) hX.1 hX.2.1 (hX.2.2.2.1.trans hl.1.symm) hX.2.2.2.2.1 (ht _ hlk) (ht _ hnat) (ht _ hstt) (ht _ hini) hX.2.2.2.2.2.2.2.2.1 hP.1.1 (z_D hP.1) hP.2 a0 a kd kd (z_ws_get hs0) (z_ws_get hs) htk htk hpr g1 g2 g3 (by rw [z_clamp hsp', z_clamp hn']; omega) (by rw [z_clamp hdp', z_clamp hn']; omega) (fun i hi => by rw [z_clamp hn'] at hi; rw [z_clamp hsp']; exact hfit _ (by omega) (by omega)) hrm.1 (by rw [z_wds_cat]; exact hrm.2) hd (fun H1 locs1 hP1 _ hS1 => ?_)
  rw [z_clamp hsp', z_clamp hdp', z_clamp hn'] at hP1
  have hee : va_cpy (fun j : Nat => Int32.ofInt (σ.2 a0 (j : Int))) (fun j : Nat => Int32.ofInt (σ.2 a (j : Int))) sp.toNat dp.toNat n.toNat = fun j : Nat => Int32.ofInt ((fun j : Int => if dp ≤ j ∧ j < dp + n then σ.2 a0 (sp + (j - dp)) else σ.2 a j) (j : Int)) := by
    funext j
    simp only [va_cpy]
    by_cases hj : dp.toNat ≤ j ∧ j < dp.toNat + n.toNat
    · rw [if_pos hj, if_pos (by omega)]
      rw [show ((sp.toNat + (j - dp.toNat) : Nat) : Int) = sp + ((j : Int) - dp) by omega]
    · rw [if_neg hj, if_neg (by omega)]
  rw [hee] at hP1
  have hP2 := z_Pset (c := .inr (.inl (kd, n1))) (f := fun j : Int => if dp ≤ j ∧ j < dp + n then σ.2 a0 (sp + (j - dp)) else σ.2 a j) hP hs (fun j => by split; exact hP.1.2.2.1 _ _; exact hP.1.2.2.1 _ _) (H1 := H1) hP1 hS1
  rw [z_cp_eq hs] at hP2
  exact kk G p l e s m args below meth c Z H1 locs1 ls hX hZ hP2 hL (fun q hq => hS q (by simp [hq])) hl hc
theorem z_copy {a0 a n0 n1 idx : Nat} {sp dp n : Int} (hlk : Cond.methodLink M.1.cls idx arraycopyName ∈ z_tb) (hnat : Cond.native arraycopyName ∈ z_tb) (hstt : Cond.static arraycopyName ∈ z_tb) (hini : Cond.initialized "java/lang/System" ∈ z_tb) (hs0 : σ.1[a0]? = some (.inr (.inl (0, n0)))) (hs : σ.1[a]? = some (.inr (.inl (0, n1)))) (h1 : 0 ≤ sp ∧ 0 ≤ dp ∧ 0 ≤ n) (h2 : sp + n ≤ (n0 : Int) ∧ dp + n ≤ (n1 : Int))
    (hrm : 1 ≤ M.2.2.2.2.frames ∧ z_wds st + (nativeFrameWords "java/lang/System" "arraycopy" 5 + 11) ≤ M.2.2.2.2.locals) (hd : decode M.2.1 pc = .ok (.invokestatic idx, 3)) (kk : z_Sem M nz (pc + 3) L st (z_cp σ a0 sp a dp n) Q) : z_Sem M nz pc L (z_i n :: z_i dp :: z_r a :: z_i sp :: z_r a0 :: st) σ Q :=
  z_copyK (Or.inl ⟨rfl, rfl⟩) (fun _ _ _ => rfl) hlk hnat hstt hini hs0 hs h1 h2 hrm hd kk
/-- a row of bytes doubled -/
theorem z_cloneB {a N idx : Nat} (hlk : Cond.methodLink M.1.cls idx ⟨"[B", "clone", "()Ljava/lang/Object;"⟩ ∈ z_tb) (hsm : Cond.sameMethod "[B" "java/lang/Object" "clone" "()Ljava/lang/Object;" ∈ z_tb) (hnat : Cond.native ⟨"java/lang/Object", "clone", "()Ljava/lang/Object;"⟩ ∈ z_tb) (hin : Cond.instanceMethod ⟨"java/lang/Object", "clone", "()Ljava/lang/Object;"⟩ ∈ z_tb) (hsel : Cond.selects "[B" ⟨"[B", "clone", "()Ljava/lang/Object;"⟩ ⟨"java/lang/Object", "clone", "()Ljava/lang/Object;"⟩ ∈ z_tb) (hcl : Cond.castable "[B" "java/lang/Cloneable" ∈ z_tn)
    (hs : σ.1[a]? = some (.inr (.inl (2, N)))) (hb : ∀ j : Nat, j < N → fits .byte (.int (Int32.ofInt (σ.2 a (j : Int)))) = true) (hlen : σ.1.length < 1000) (hlo : z_cls0 σ.1) (hLv : z_lv σ.1.length L) (hSv : z_sv1 σ.1.length st) (hN : 1 ≤ N) (hcc : nz.2 + N ≤ M.2.2.2.2.cells ∧ nz.2 + N ≤ M.2.2.2.2.slots) (hrm : 1 ≤ M.2.2.2.2.frames ∧ z_wds st + 14 ≤ M.2.2.2.2.locals) (hd : decode M.2.1 pc = .ok (.invokevirtual idx, 3))
    (kk : z_Sem M (nz.1, nz.2 + N) (pc + 3) L (z_r σ.1.length :: st) (z_nwf σ (.inr (.inl (2, N))) (σ.2 a)) Q) : z_Sem M nz pc L (z_r a :: st) σ Q := by
  intro G p l e s m args below meth c Z H locs ls hX hZ hP hL hS hl hc
  have ht := hX.2.2.2.2.2.1
  have hK := hX.2.2.2.2.2.2.2.2.1
  have hO := hX.2.2.2.2.2.2.2.2.2.1
  rw [List.map_cons, z_cvr hP hs]
  have hnm : s.vm.findClass "[B" = some (G.2.1 2) := (hK.2 2 _ rfl).2
  refine va_clone (ad := "[B") (ty := .byte) hX.1 hX.2.1 (hX.2.2.2.1.trans hl.1.symm) hX.2.2.2.2.1 (ht _ hlk) (ht _ hsm) (ht _ hnat) (ht _ hin) (ht _ hsel) (hO.2.2.2.2.2.1 _ hcl) hK hP.1.1 (z_D hP.1) hP.2 hX.2.2.2.2.2.2.2.2.2.2 a 2 (z_ws_get hs) rfl hnm (fun i v hv => ?_) hrm.1 (by rw [z_wds_cat]; exact hrm.2) (by omega) (by show nz.2 + N ≤ _; exact hcc.2) hd (fun q H1 _ hP1 hD1 hS1 => ?_)
  · have hv2 : (vp_cell (G.2.1 2) (N, .inl (fun j : Nat => Int32.ofInt (σ.2 a (j : Int))))).slots[i]? = some v := hv
    simp only [vp_cell] at hv2
    have hi : i < N := by
      have := (Array.getElem?_eq_some_iff.mp hv2).1
      simpa [arrV] using this
    have hv3 : v = .int (Int32.ofInt (σ.2 a (i : Int))) := by
      have := (Array.getElem?_eq_some_iff.mp hv2).2
      simpa [arrV] using this.symm
    rw [hv3]; exact hb i hi
  · have hsm2 := z_nG_sm (G := G) (q := q) hlen
    have hag : z_ag M.2.2.2.2.cells nz.1 G (z_nG G σ.1.length q) := hsm2.ag (by omega) hc.1
    have hle : (z_nwf σ (.inr (.inl (2, N))) (σ.2 a)).1.length = σ.1.length + 1 := by simp [z_nwf]
    have h9 := kk (z_nG G σ.1.length q) p l e s m args below meth c Z H1 locs ls (hX.sm hsm2) (hZ.ag hag) (z_Pnq hP (.inr (.inl (2, N))) (σ.2 a) (fun j => hP.1.2.2.1 a j) hlen hlo True.intro hP1 hD1 hS1) hL (z_RvN (z_RvC hS).2) (by rw [z_lo_vv hsm2 hLv]; exact hl) ⟨by rw [hle]; show nz.1 ≤ _; omega, hcc⟩
    rw [List.map_cons, z_st_vv hsm2 hSv, show z_cv (z_nG G σ.1.length q) (z_r σ.1.length) = .ref q by show Value.ref (z_ad _ _) = _; rw [z_nG_at]] at h9
    exact W.widen (k := nz.2 + N) (n := nz.2 + N) (by omega) (Nat.le_refl _) h9
/-- a row of bytes is one -/
theorem z_castB {a N idx : Nat} (hlk : Cond.classLink M.1.cls idx "[B" ∈ z_tb) (hs : σ.1[a]? = some (.inr (.inl (2, N)))) (hd : decode M.2.1 pc = .ok (.checkcast idx, 3)) (kk : z_Sem M nz (pc + 3) L (z_r a :: st) σ Q) : z_Sem M nz pc L (z_r a :: st) σ Q := by
  intro G p l e s m args below meth c Z H locs ls hX hZ hP hL hS hl hc
  have hnm : s.vm.findClass "[B" = some (G.2.1 2) := (hX.2.2.2.2.2.2.2.2.1.2 2 _ rfl).2
  exact va_castA hX.1 hX.2.1 hX.2.2.2.2.1 (hX.2.2.2.2.2.1 _ hlk) hP.1.1 a (z_ws_get hs) hnm hd (kk G p l e s m args below meth c Z H locs ls hX hZ hP hL hS hl hc)
/-- a larger bound -/
theorem z_wid {n0 z z' : Nat} (hz : z ≤ z') (hz2 : z' ≤ M.2.2.2.2.cells ∧ z' ≤ M.2.2.2.2.slots) (kk : z_Sem M (n0, z') pc L st σ Q) : z_Sem M (n0, z) pc L st σ Q := by
  intro G p l e s m args below meth c Z H locs ls hX hZ hP hL hS hl hc
  exact W.widen hz hz (kk G p l e s m args below meth c Z H locs ls hX hZ hP hL hS hl ⟨hc.1, hz2⟩)
/-- null -/
theorem z_anull (hd : decode M.2.1 pc = .ok (.aconst_null, 1)) (kk : z_Sem M nz (pc + 1) L (z_x none :: st) σ Q) : z_Sem M nz pc L st σ Q :=
  z_pure (fun _ _ _ _ _ _ _ _ _ _ _ _ _ ls hX _ _ _ hl kk => lv_null hX.1 hX.2.1 hd (kk ls hl)) (fun h _ => h) (fun _ h => z_RvM (x := z_x none) True.intro h) kk
/-- from a String constant's bytes -/
theorem z_copyF {i a n1 idx : Nat} {sp dp n : Int} {f : Int → Int} (hi : i < 35) (hb : ∀ j : Nat, j < z_len.getD i 0 → (z_byt.getD i []).getD j 0 = Int32.ofInt (f (j : Int)) ∧ fits .byte (.int (Int32.ofInt (f (j : Int)))) = true ∧ z_R (f (j : Int))) (hlk : Cond.methodLink M.1.cls idx arraycopyName ∈ z_tb) (hnat : Cond.native arraycopyName ∈ z_tb) (hstt : Cond.static arraycopyName ∈ z_tb) (hini : Cond.initialized "java/lang/System" ∈ z_tb) (hs : σ.1[a]? = some (.inr (.inl (2, n1)))) (h1 : 0 ≤ sp ∧ 0 ≤ dp ∧ 0 ≤ n) (h2 : sp + n ≤ ((z_len.getD i 0 : Nat) : Int) ∧ dp + n ≤ (n1 : Int))
    (hrm : 1 ≤ M.2.2.2.2.frames ∧ z_wds st + (nativeFrameWords "java/lang/System" "arraycopy" 5 + 11) ≤ M.2.2.2.2.locals) (hd : decode M.2.1 pc = .ok (.invokestatic idx, 3)) (kk : z_Sem M nz (pc + 3) L st (σ.1, fun b j => if b = a ∧ dp ≤ j ∧ j < dp + n then f (sp + (j - dp)) else σ.2 b j) Q) : z_Sem M nz pc L (z_i n :: z_i dp :: z_r a :: z_i sp :: z_r (1101 + i) :: st) σ Q := by
  intro G p l e s m args below meth c Z H locs ls hX hZ hP hL hS hl hc
  have ht := hX.2.2.2.2.2.1
  have hO := hX.2.2.2.2.2.2.2.2.2.1
  simp only [List.map_cons]
  rw [z_cvr hP hs]
  have hn' : z_R n := (z_RvC hS).1
  have hdp' : z_R dp := (z_RvC (z_RvC hS).2).1
  have hsp' : z_R sp := (z_RvC (z_RvC (z_RvC (z_RvC hS).2).2).2).1
  have g1 : ¬ Int32.ofInt sp < 0 := by rw [z_of0, z_lt hsp' z_zero]; omega
  have g2 : ¬ Int32.ofInt dp < 0 := by rw [z_of0, z_lt hdp' z_zero]; omega
  have g3 : ¬ Int32.ofInt n < 0 := by rw [z_of0, z_lt hn' z_zero]; omega
  refine vk_copyt (b0 := z_ad G (1101 + i)) (f := fun j => (z_byt.getD i []).getD j 0) hX.1 hX.2.1 (hX.2.2.2.1.trans hl.1.symm) hX.2.2.2.2.1 (ht _ hlk) (ht _ hnat) (ht _ hstt) (ht _ hini) hX.2.2.2.2.2.2.2.2.1 hP.1.1 (z_D hP.1) hP.2 (hO.2.1 i hi).2.2.2 a 2 (z_ws_get hs) rfl g1 g2 g3 (by rw [z_clamp hsp', z_clamp hn']; omega) (by rw [z_clamp hdp', z_clamp hn']; omega) (fun j hj => by rw [z_clamp hn'] at hj; rw [z_clamp hsp', (hb _ (by omega)).1]; exact (hb _ (by omega)).2.1) hrm.1 (by rw [z_wds_cat]; exact hrm.2) hd (fun H1 locs1 hP1 _ hS1 => ?_)
  rw [z_clamp hsp', z_clamp hdp', z_clamp hn'] at hP1
  have hee : va_cpy (fun j : Nat => (z_byt.getD i []).getD j 0) (fun j : Nat => Int32.ofInt (σ.2 a (j : Int))) sp.toNat dp.toNat n.toNat = fun j : Nat => Int32.ofInt ((fun j : Int => if dp ≤ j ∧ j < dp + n then f (sp + (j - dp)) else σ.2 a j) (j : Int)) := by
    funext j
    simp only [va_cpy]
    by_cases hj : dp.toNat ≤ j ∧ j < dp.toNat + n.toNat
    · rw [if_pos hj, if_pos (by omega), (hb _ (by omega)).1]
      rw [show ((sp.toNat + (j - dp.toNat) : Nat) : Int) = sp + ((j : Int) - dp) by omega]
    · rw [if_neg hj, if_neg (by omega)]
  rw [hee] at hP1
  have hP2 := z_Pset (c := .inr (.inl (2, n1))) (f := fun j : Int => if dp ≤ j ∧ j < dp + n then f (sp + (j - dp)) else σ.2 a j) hP hs (fun j => by
    split
    · rename_i hjj
      have h8 := (hb (sp + (j - dp)).toNat (by omega)).2.2
      rw [show (((sp + (j - dp)).toNat : Nat) : Int) = sp + (j - dp) by omega] at h8
      exact h8
    · exact hP.1.2.2.1 _ _) (H1 := H1) hP1 hS1
  rw [z_u_self hs, show (fun b => if b = a then (fun j : Int => if dp ≤ j ∧ j < dp + n then f (sp + (j - dp)) else σ.2 a j) else σ.2 b) = (fun b j => if b = a ∧ dp ≤ j ∧ j < dp + n then f (sp + (j - dp)) else σ.2 b j) by
    funext b j
    by_cases hb : b = a
    · subst hb; simp
    · simp [hb]] at hP2
  exact kk G p l e s m args below meth c Z H1 locs1 ls hX hZ hP2 hL (fun q hq => hS q (by simp [hq])) hl hc
/-! floats -/
theorem z_i2f {x : Int} (hd : decode M.2.1 pc = .ok (.i2f, 1)) (k : z_Sem M nz (pc + 1) L (z_f (FP.i2f (Int32.ofInt x)) :: st) σ Q) : z_Sem M nz pc L (z_i x :: st) σ Q :=
  z_pure (fun _ _ _ _ _ _ _ _ _ _ _ _ _ ls hX _ _ _ hl kk => lv_i2f hX.1 hX.2.1 hd (kk ls hl)) (fun h _ => h) (fun _ h => z_RvF (z_RvC h).2) k
theorem z_i2d {x : Int} (hd : decode M.2.1 pc = .ok (.i2d, 1)) (k : z_Sem M nz (pc + 1) L (z_d (FP.i2d (Int32.ofInt x)) :: st) σ Q) : z_Sem M nz pc L (z_i x :: st) σ Q :=
  z_pure (fun _ _ _ _ _ _ _ _ _ _ _ _ _ ls hX _ _ _ hl kk => lv_i2d hX.1 hX.2.1 hd (kk ls hl)) (fun h _ => h) (fun _ h => z_RvD (z_RvC h).2) k
theorem z_f2d {x : UInt32} (hd : decode M.2.1 pc = .ok (.f2d, 1)) (hn : vf_n64 (FP.f2d x)) (k : z_Sem M nz (pc + 1) L (z_d (FP.f2d x) :: st) σ Q) : z_Sem M nz pc L (z_f x :: st) σ Q :=
  z_pure (fun _ _ _ _ _ _ _ _ _ _ _ _ _ ls hX _ _ _ hl kk => lv_f2d hX.1 hX.2.1 hd hn (kk ls hl)) (fun h _ => h) (fun _ h => z_RvD (z_RvC h).2) k
theorem z_fdiv {x y : UInt32} (hd : decode M.2.1 pc = .ok (.fdiv, 1)) (hn : vf_n32 (FP.fdiv x y)) (k : z_Sem M nz (pc + 1) L (z_f (FP.fdiv x y) :: st) σ Q) : z_Sem M nz pc L (z_f y :: z_f x :: st) σ Q :=
  z_pure (fun _ _ _ _ _ _ _ _ _ _ _ _ _ ls hX _ _ _ hl kk => lv_fdiv hX.1 hX.2.1 hd hn (kk ls hl)) (fun h _ => h) (fun _ h => z_RvF (z_RvC (z_RvC h).2).2) k
theorem z_ddiv {x y : UInt64} (hd : decode M.2.1 pc = .ok (.ddiv, 1)) (hn : vf_n64 (FP.ddiv x y)) (k : z_Sem M nz (pc + 1) L (z_d (FP.ddiv x y) :: st) σ Q) : z_Sem M nz pc L (z_d y :: z_d x :: st) σ Q :=
  z_pure (fun _ _ _ _ _ _ _ _ _ _ _ _ _ ls hX _ _ _ hl kk => lv_ddiv hX.1 hX.2.1 hd hn (kk ls hl)) (fun h _ => h) (fun _ h => z_RvD (z_RvC (z_RvC h).2).2) k
theorem z_fconst0 (hd : decode M.2.1 pc = .ok (.fconst 0, 1)) (k : z_Sem M nz (pc + 1) L (z_f FP.fconst0 :: st) σ Q) : z_Sem M nz pc L st σ Q :=
  z_pure (fun _ _ _ _ _ _ _ _ _ _ _ _ _ ls hX _ _ _ hl kk => lv_fconst0 hX.1 hX.2.1 hd (kk ls hl)) (fun h _ => h) (fun _ h => z_RvF h) k
theorem z_dconst0 (hd : decode M.2.1 pc = .ok (.dconst 0, 1)) (k : z_Sem M nz (pc + 1) L (z_d FP.dconst0 :: st) σ Q) : z_Sem M nz pc L st σ Q :=
  z_pure (fun _ _ _ _ _ _ _ _ _ _ _ _ _ ls hX _ _ _ hl kk => lv_dconst0 hX.1 hX.2.1 hd (kk ls hl)) (fun h _ => h) (fun _ h => z_RvD h) k
theorem z_dcmp {x y : UInt64} {op : CmpOp} {v : Int} (hd : decode M.2.1 pc = .ok (.dcmp op, 1)) (hv : Op.cmpValue (FP.dcmp x y) op = Int32.ofInt v) (hr : z_R v) (k : z_Sem M nz (pc + 1) L (z_i v :: st) σ Q) : z_Sem M nz pc L (z_d y :: z_d x :: st) σ Q :=
  z_pure (fun _ _ _ _ _ _ _ _ _ _ _ _ _ ls hX _ _ _ hl kk => lv_dcmp hX.1 hX.2.1 hd (by rw [hv]; exact kk ls hl)) (fun h _ => h) (fun _ h => z_RvI hr (z_RvC (z_RvC h).2).2) k
theorem z_fcmp {x y : UInt32} {op : CmpOp} {v : Int} (hd : decode M.2.1 pc = .ok (.fcmp op, 1)) (hv : Op.cmpValue (FP.fcmp x y) op = Int32.ofInt v) (hr : z_R v) (k : z_Sem M nz (pc + 1) L (z_i v :: st) σ Q) : z_Sem M nz pc L (z_f y :: z_f x :: st) σ Q :=
  z_pure (fun _ _ _ _ _ _ _ _ _ _ _ _ _ ls hX _ _ _ hl kk => lv_fcmp hX.1 hX.2.1 hd (by rw [hv]; exact kk ls hl)) (fun h _ => h) (fun _ h => z_RvI hr (z_RvC (z_RvC h).2).2) k
def z_or (x y : Int) : Int := (Int32.ofInt x ||| Int32.ofInt y).toInt
def z_shl (x y : Int) : Int := (Int32.ofInt x <<< (Int32.ofInt y &&& 31)).toInt
theorem z_ior {x y : Int} (hd : decode M.2.1 pc = .ok (.ior, 1)) (k : z_Sem M nz (pc + 1) L (z_i (z_or x y) :: st) σ Q) : z_Sem M nz pc L (z_i y :: z_i x :: st) σ Q :=
  z_pure (fun _ _ _ _ _ _ _ _ _ _ _ _ _ ls hX _ _ _ hl kk => lv_ior hX.1 hX.2.1 hd (by have h := kk ls hl; simp only [List.map_cons, z_cv, z_or, Int32.ofInt_toInt] at h; exact h)) (fun h _ => h) (fun _ h => z_RvI (z_Rto _) (z_RvC (z_RvC h).2).2) k
theorem z_ishl {x y : Int} (hd : decode M.2.1 pc = .ok (.ishl, 1)) (k : z_Sem M nz (pc + 1) L (z_i (z_shl x y) :: st) σ Q) : z_Sem M nz pc L (z_i y :: z_i x :: st) σ Q :=
  z_pure (fun _ _ _ _ _ _ _ _ _ _ _ _ _ ls hX _ _ _ hl kk => lv_ishl hX.1 hX.2.1 hd (by have h := kk ls hl; simp only [List.map_cons, z_cv, z_shl, Int32.ofInt_toInt] at h; exact h)) (fun h _ => h) (fun _ h => z_RvI (z_Rto _) (z_RvC (z_RvC h).2).2) k
/-- arithmetic that may pass the range -/
def z_nrm (x : Int) : Int := (Int32.ofInt x).toInt
theorem z_imulW {x y : Int} (hd : decode M.2.1 pc = .ok (.imul, 1)) (k : z_Sem M nz (pc + 1) L (z_i (z_nrm (x * y)) :: st) σ Q) : z_Sem M nz pc L (z_i y :: z_i x :: st) σ Q :=
  z_pure (fun _ _ _ _ _ _ _ _ _ _ _ _ _ ls hX _ _ _ hl kk => lv_imul hX.1 hX.2.1 hd (by have h := kk ls hl; simp only [List.map_cons, z_cv, z_nrm, Int32.ofInt_toInt, Int32.ofInt_mul] at h; exact h)) (fun h _ => h) (fun _ h => z_RvI (z_Rto _) (z_RvC (z_RvC h).2).2) k
theorem z_iaddW {x y : Int} (hd : decode M.2.1 pc = .ok (.iadd, 1)) (k : z_Sem M nz (pc + 1) L (z_i (z_nrm (x + y)) :: st) σ Q) : z_Sem M nz pc L (z_i y :: z_i x :: st) σ Q :=
  z_pure (fun _ _ _ _ _ _ _ _ _ _ _ _ _ ls hX _ _ _ hl kk => lv_iadd hX.1 hX.2.1 hd (by have h := kk ls hl; simp only [List.map_cons, z_cv, z_nrm, Int32.ofInt_toInt, Int32.ofInt_add] at h; exact h)) (fun h _ => h) (fun _ h => z_RvI (z_Rto _) (z_RvC (z_RvC h).2).2) k
theorem z_nonnull {a tgt : Nat} {off : Int} (hd : decode M.2.1 pc = .ok (.ifnonnull off, 3)) (ht : (pc : Int) + off = (tgt : Int)) (k : z_Sem M nz tgt L st σ Q) : z_Sem M nz pc L (z_r a :: st) σ Q :=
  z_pure (fun _ _ _ _ _ _ _ _ _ _ _ _ _ ls hX _ _ _ hl kk => lv_ifnonnull hX.1 hX.2.1 hd ht (kk ls hl)) (fun h _ => h) (fun _ h => (z_RvC h).2) k
theorem z_dup_x1 {x y : z_V} (hd : decode M.2.1 pc = .ok (.dup_x1, 1)) (h1 : z_c2 x = false) (h2 : z_c2 y = false) (k : z_Sem M nz (pc + 1) L (x :: y :: x :: st) σ Q) : z_Sem M nz pc L (x :: y :: st) σ Q :=
  z_pure (fun G _ _ _ _ _ _ _ _ _ _ _ _ ls hX _ _ _ hl kk => lv_dup_x1 hX.1 hX.2.1 hd (by rcases x with x | x | x | x | (_ | x) <;> first | rfl | cases h1) (by rcases y with x | x | x | x | (_ | x) <;> first | rfl | cases h2) (kk ls hl)) (fun h _ => h) (fun _ h => z_RvM (z_RvC h).1 (z_RvM (z_RvC (z_RvC h).2).1 (z_RvM (z_RvC h).1 (z_RvC (z_RvC h).2).2))) k
/-! String constants' insides -/
theorem z_strval {i : Nat} {fin : Unit} (hi : i < 35) (hown : M.1.cls = "java/lang/String") (hlk : Cond.fieldLink "java/lang/String" 9 "java/lang/String" "value" "[B" ∈ z_tb) (hd : decode M.2.1 pc = .ok (.getfield 9, 3)) (kk : z_Sem M nz (pc + 3) L (z_r (1101 + i) :: st) σ Q) : z_Sem M nz pc L (z_r (1001 + i) :: st) σ Q := by
  intro G p l e s m args below meth c Z H locs ls hX hZ hP hL hS hl hc
  have ht := hX.2.2.2.2.2.1
  have hO := hX.2.2.2.2.2.2.2.2.2.1
  have e1 : z_cv G (z_r (1001 + i)) = .ref (z_ad G (1001 + i)) := rfl
  have e2 : z_cv G (z_r (1101 + i)) = .ref (z_ad G (1101 + i)) := rfl
  have h9 := kk G p l e s m args below meth c Z H locs ls hX hZ hP hL (z_RvN (z_RvC hS).2) hl hc
  rw [List.map_cons, e2] at h9
  rw [List.map_cons, e1]
  exact vk_getf (ref := "java/lang/String") hX.1 hX.2.1 (hO.2.1 i hi).2.2.1 hP.2 (by rw [← hown]; exact hX.2.2.2.2.1) (ht _ hlk) (fun x hx => hx) hd h9
theorem z_strcod {i : Nat} (hi : i < 35) (hown : M.1.cls = "java/lang/String") (hlk : Cond.fieldLink "java/lang/String" 15 "java/lang/String" "coder" "B" ∈ z_tb) (hd : decode M.2.1 pc = .ok (.getfield 15, 3)) (kk : z_Sem M nz (pc + 3) L (z_i 0 :: st) σ Q) : z_Sem M nz pc L (z_r (1001 + i) :: st) σ Q := by
  intro G p l e s m args below meth c Z H locs ls hX hZ hP hL hS hl hc
  have ht := hX.2.2.2.2.2.1
  have hO := hX.2.2.2.2.2.2.2.2.2.1
  have e1 : z_cv G (z_r (1001 + i)) = .ref (z_ad G (1001 + i)) := rfl
  have h9 := kk G p l e s m args below meth c Z H locs ls hX hZ hP hL (z_RvI z_zero (z_RvC hS).2) hl hc
  rw [List.map_cons, e1]
  exact vk_getf (ref := "java/lang/String") hX.1 hX.2.1 (hO.2.1 i hi).2.1 hP.2 (by rw [← hown]; exact hX.2.2.2.2.1) (ht _ hlk) (fun x hx => hx) hd h9
theorem z_strlen {i : Nat} (hi : i < 35) (hd : decode M.2.1 pc = .ok (.arraylength, 1)) (hr : z_R (z_len.getD i 0 : Nat)) (kk : z_Sem M nz (pc + 1) L (z_i (z_len.getD i 0 : Nat) :: st) σ Q) : z_Sem M nz pc L (z_r (1101 + i) :: st) σ Q := by
  intro G p l e s m args below meth c Z H locs ls hX hZ hP hL hS hl hc
  have hO := hX.2.2.2.2.2.2.2.2.2.1
  have e2 : z_cv G (z_r (1101 + i)) = .ref (z_ad G (1101 + i)) := rfl
  have h9 := kk G p l e s m args below meth c Z H locs ls hX hZ hP hL (z_RvI hr (z_RvC hS).2) hl hc
  rw [List.map_cons, e2]
  exact va_tlen hX.1 hX.2.1 (hO.2.1 i hi).2.2.2 hP.2 (v := Int32.ofInt (z_len.getD i 0 : Nat)) rfl hd h9
theorem z_strald {i : Nat} {j v : Int} (hi : i < 35) (hd : decode M.2.1 pc = .ok (.baload, 1)) (hj : 0 ≤ j ∧ j < (z_len.getD i 0 : Nat)) (hv : (z_byt.getD i []).getD j.toNat 0 = Int32.ofInt v) (hr : z_R v) (kk : z_Sem M nz (pc + 1) L (z_i v :: st) σ Q) : z_Sem M nz pc L (z_i j :: z_r (1101 + i) :: st) σ Q := by
  intro G p l e s m args below meth c Z H locs ls hX hZ hP hL hS hl hc
  have hO := hX.2.2.2.2.2.2.2.2.2.1
  have e2 : z_cv G (z_r (1101 + i)) = .ref (z_ad G (1101 + i)) := rfl
  have hj' : z_R j := (z_RvC hS).1
  have h9 := kk G p l e s m args below meth c Z H locs ls hX hZ hP hL (z_RvI hr (z_RvC (z_RvC hS).2).2) hl hc
  rw [List.map_cons, List.map_cons, e2]
  refine va_tb hX.1 hX.2.1 (hO.2.1 i hi).2.2.2 hP.2 (z_in hj' hj.1 hj.2) (v := .int (Int32.ofInt v)) ?_ hd h9
  rw [z_clamp hj', hv]
theorem z_getCS {ix : Nat} (hlk : Cond.fieldLink M.1.cls ix "java/lang/String" "COMPACT_STRINGS" "Z" ∈ z_tb) (hd : decode M.2.1 pc = .ok (.getstatic ix, 3)) (kk : z_Sem M nz (pc + 3) L (z_i 1 :: st) σ Q) : z_Sem M nz pc L st σ Q := by
  intro G p l e s m args below meth c Z H locs ls hX hZ hP hL hS hl hc
  have ht := hX.2.2.2.2.2.1
  have hO := hX.2.2.2.2.2.2.2.2.2.1
  have h9 := kk G p l e s m args below meth c Z H locs ls hX hZ hP hL (z_RvI (by constructor <;> decide) hS) hl hc
  exact va_gets (ref := "java/lang/String") hX.1 hX.2.1 hO.2.2.2.1 hP.2 hX.2.2.2.2.1 (ht _ hlk) (fun x hx => hx) hd h9
theorem z_getSF (hown : M.1.cls = "java/lang/String") (hlk : Cond.fieldLink "java/lang/String" 1053 "jdk/internal/util/Preconditions" "SIOOBE_FORMATTER" "Ljava/util/function/BiFunction;" ∈ z_tb) (hd : decode M.2.1 pc = .ok (.getstatic 1053, 3)) (kk : ∀ v : z_V, z_c1 v → z_c2 v = false → z_Sem M nz (pc + 3) L (v :: st) σ Q) : z_Sem M nz pc L st σ Q := by
  intro G p l e s m args below meth c Z H locs ls hX hZ hP hL hS hl hc
  have ht := hX.2.2.2.2.2.1
  have hO := hX.2.2.2.2.2.2.2.2.2.1
  rcases hO.2.2.2.2.1.1 with h | ⟨t, h⟩
  · have h9 := kk (z_x none) True.intro rfl G p l e s m args below meth c Z H locs ls hX hZ hP hL (z_RvM (x := z_x none) True.intro hS) hl hc
    exact va_gets (ref := "jdk/internal/util/Preconditions") hX.1 hX.2.1 h hP.2 (by rw [← hown]; exact hX.2.2.2.2.1) (ht _ hlk) (fun x hx => hx) hd h9
  · have h9 := kk (z_x (some t)) True.intro rfl G p l e s m args below meth c Z H locs ls hX hZ hP hL (z_RvM (x := z_x (some t)) True.intro hS) hl hc
    exact va_gets (ref := "jdk/internal/util/Preconditions") hX.1 hX.2.1 h hP.2 (by rw [← hown]; exact hX.2.2.2.2.1) (ht _ hlk) (fun x hx => hx) hd h9
theorem z_getDO {ix : Nat} (hlk : Cond.fieldLink M.1.cls ix "java/lang/Integer" "DigitOnes" "[B" ∈ z_tb) (hd : decode M.2.1 pc = .ok (.getstatic ix, 3)) (kk : z_Sem M nz (pc + 3) L (z_r 1201 :: st) σ Q) : z_Sem M nz pc L st σ Q := by
  intro G p l e s m args below meth c Z H locs ls hX hZ hP hL hS hl hc
  have ht := hX.2.2.2.2.2.1
  have hO := hX.2.2.2.2.2.2.2.2.2.1
  have h9 := kk G p l e s m args below meth c Z H locs ls hX hZ hP hL (z_RvN hS) hl hc
  exact va_gets (ref := "java/lang/Integer") hX.1 hX.2.1 hO.2.2.2.2.2.2.1.1 hP.2 hX.2.2.2.2.1 (ht _ hlk) (fun x hx => hx) hd h9
theorem z_getDT {ix : Nat} (hlk : Cond.fieldLink M.1.cls ix "java/lang/Integer" "DigitTens" "[B" ∈ z_tb) (hd : decode M.2.1 pc = .ok (.getstatic ix, 3)) (kk : z_Sem M nz (pc + 3) L (z_r 1202 :: st) σ Q) : z_Sem M nz pc L st σ Q := by
  intro G p l e s m args below meth c Z H locs ls hX hZ hP hL hS hl hc
  have ht := hX.2.2.2.2.2.1
  have hO := hX.2.2.2.2.2.2.2.2.2.1
  have h9 := kk G p l e s m args below meth c Z H locs ls hX hZ hP hL (z_RvN hS) hl hc
  exact va_gets (ref := "java/lang/Integer") hX.1 hX.2.1 hO.2.2.2.2.2.2.2.1 hP.2 hX.2.2.2.2.1 (ht _ hlk) (fun x hx => hx) hd h9
theorem z_ald1 {j : Int} (hd : decode M.2.1 pc = .ok (.baload, 1)) (hj : 0 ≤ j ∧ j < 100) (kk : z_Sem M nz (pc + 1) L (z_i (48 + j % 10) :: st) σ Q) : z_Sem M nz pc L (z_i j :: z_r 1201 :: st) σ Q := by
  intro G p l e s m args below meth c Z H locs ls hX hZ hP hL hS hl hc
  have hO := hX.2.2.2.2.2.2.2.2.2.1
  have hj' : z_R j := (z_RvC hS).1
  have h9 := kk G p l e s m args below meth c Z H locs ls hX hZ hP hL (z_RvI ⟨by omega, by omega⟩ (z_RvC (z_RvC hS).2).2) hl hc
  refine va_tb hX.1 hX.2.1 hO.2.2.2.2.2.2.1.2 hP.2 (z_in hj' hj.1 (by show j < ((100 : Nat) : Int); omega)) (v := .int (Int32.ofInt (48 + j % 10))) ?_ hd h9
  rw [z_clamp hj']
  show Value.int (Int32.ofNat (48 + j.toNat % 10)) = _
  rw [show (48 + j % 10 : Int) = ((48 + j.toNat % 10 : Nat) : Int) by omega]
  rfl
theorem z_ald2 {j : Int} (hd : decode M.2.1 pc = .ok (.baload, 1)) (hj : 0 ≤ j ∧ j < 100) (kk : z_Sem M nz (pc + 1) L (z_i (48 + j / 10) :: st) σ Q) : z_Sem M nz pc L (z_i j :: z_r 1202 :: st) σ Q := by
  intro G p l e s m args below meth c Z H locs ls hX hZ hP hL hS hl hc
  have hO := hX.2.2.2.2.2.2.2.2.2.1
  have hj' : z_R j := (z_RvC hS).1
  have h9 := kk G p l e s m args below meth c Z H locs ls hX hZ hP hL (z_RvI ⟨by omega, by omega⟩ (z_RvC (z_RvC hS).2).2) hl hc
  refine va_tb hX.1 hX.2.1 hO.2.2.2.2.2.2.2.2 hP.2 (z_in hj' hj.1 (by show j < ((100 : Nat) : Int); omega)) (v := .int (Int32.ofInt (48 + j / 10))) ?_ hd h9
  rw [z_clamp hj']
  show Value.int (Int32.ofNat (48 + j.toNat / 10)) = _
  rw [show (48 + j / 10 : Int) = ((48 + j.toNat / 10 : Nat) : Int) by omega]
  rfl
end ZRULES3
