/-! MEMORIES OF CALLEES: cells forgotten, renamed, handed on -/
def z_rnm (r : Nat → Nat) (a : Nat) : Nat := if a < 1000 then r a else a
def z_rv (r : Nat → Nat) : z_V → z_V
  | .inr (.inl a) => z_r (z_rnm r a)
  | v => v
def z_rof (r : Nat → Nat) (o : Option (Option Nat)) : Option (Option Nat) := o.map (Option.map (z_rnm r))
def z_rc (r : Nat → Nat) : z_C → z_C
  | .inl (ci, fl) => .inl (ci, fl.map (z_rof r))
  | .inr (.inl q) => .inr (.inl q)
  | .inr (.inr rs) => .inr (.inr (rs.map (Option.map (z_rnm r))))
/-- names that are another's names -/
def z_pG (G : z_G) (r : Nat → Nat) (o : Nat → Prop) : z_G := (G.1, G.2.1, o, fun a => z_ad G (z_rnm r a), G.2.2.2.2)
def z_pw (r : Nat → Nat) (w : Nat → Int → Int) : Nat → Int → Int := fun a => w (z_rnm r a)
theorem z_rnm_lt {r : Nat → Nat} {a : Nat} (h : a < 1000) : z_rnm r a = r a := if_pos h
theorem z_rnm_ge {r : Nat → Nat} {a : Nat} (h : 1000 ≤ a) : z_rnm r a = a := if_neg (by omega)
theorem z_cv_p (G : z_G) (r : Nat → Nat) (o : Nat → Prop) (v : z_V) : z_cv (z_pG G r o) v = z_cv G (z_rv r v) := by
  rcases v with x | x | x | x | x <;> rfl
theorem z_cell_p (G : z_G) (r : Nat → Nat) (o : Nat → Prop) (f : Int → Int) (c : z_C) : z_cell (z_pG G r o) f c = z_cell G f (z_rc r c) := by
  rcases c with ⟨ci, fl⟩ | ⟨kd, n⟩ | rs
  · show Sum.inr (ci, _) = Sum.inr (ci, _)
    congr 2
    apply List.ext_getElem?
    intro i
    simp only [List.getElem?_mapIdx, List.getElem?_map]
    cases fl[i]? with
    | none => rfl
    | some o => rcases o with _ | _ | a <;> rfl
  · rfl
  · show Sum.inl (G.2.1 3, rs.length, _) = Sum.inl (G.2.1 3, (rs.map (Option.map (z_rnm r))).length, _)
    rw [List.length_map]
    congr 7
    funext j
    simp only [List.getD_eq_getElem?_getD, List.getElem?_map]
    cases rs[j]? with
    | none => rfl
    | some o => rcases o with _ | a <;> rfl
/-- a memory whose cells are cells of another -/
def z_pull (r : Nat → Nat) (sh sc : List z_C) : Prop := (∀ (a : Nat) (c : z_C), sc[a]? = some c → sh[r a]? = some (z_rc r c)) ∧ ∀ a b : Nat, a < sc.length → b < sc.length → r a = r b → a = b
theorem z_Pp {G : z_G} {σ : z_S} {H : Heap} {r : Nat → Nat} {sc : List z_C} {o : Nat → Prop} (hP : z_P0 G σ H) (hp : z_pull r σ.1 sc) (hl : sc.length ≤ 1000) (ho : ∀ a : Nat, a < sc.length → o (z_ad G (r a))) : z_P0 (z_pG G r o) (sc, z_pw r σ.2) H := by
  obtain ⟨h1, h2, h3, h4, h5, h6, h7⟩ := hP
  have key : ∀ (a : Nat), a < sc.length → r a < σ.1.length := fun a ha => (List.getElem?_eq_some_iff.mp (hp.1 a _ (List.getElem?_eq_getElem ha))).1
  refine ⟨fun k q hk => ?_, hl, fun a i => h3 _ _, fun j hj => ?_, ?_, fun i hi => ?_, fun i j hi hj hij => ?_⟩
  · simp only [z_ws, List.getElem?_mapIdx, Option.map_eq_some_iff] at hk
    obtain ⟨c, hc, rfl⟩ := hk
    have hkl := (List.getElem?_eq_some_iff.mp hc).1
    have e1 := h1 (r k) _ (z_ws_get (G := G) (hp.1 k c hc))
    show va_at G.1 z_Cl (z_ad G (z_rnm r k), z_cell (z_pG G r o) (σ.2 (z_rnm r k)) c) H
    rw [z_rnm_lt (by omega), z_cell_p]
    exact e1
  · show σ.2 (z_rnm r 1000) (j : Int) = _
    rw [z_rnm_ge (Nat.le_refl _)]; exact h4 j hj
  · show σ.2 (z_rnm r 1001) 0 = _
    rw [z_rnm_ge (by omega)]; exact h5
  · show o (z_ad G (z_rnm r i))
    rw [z_rnm_lt (by simp only at hi; omega)]; exact ho i hi
  · simp only at hi hj
    have e : z_ad G (z_rnm r i) = z_ad G (z_rnm r j) := hij
    rw [z_rnm_lt (by omega), z_rnm_lt (by omega)] at e
    exact hp.2 i j hi hj (h7 _ _ (key i hi) (key j hj) e)
/-- a smaller set of addresses of one's own -/
theorem z_O.narrow {G : z_G} {U : State} {H : Heap} {r : Nat → Nat} {o : Nat → Prop} (h : z_O G U H) (ho : ∀ q, o q → G.2.2.1 q) : z_O (z_pG G r o) U H := by
  obtain ⟨⟨h1, h1b⟩, h3, h4, h5, h6, h7, h8, h9⟩ := h
  have e : ∀ a : Nat, 1000 ≤ a → z_ad (z_pG G r o) a = z_ad G a := fun a ha => by show z_ad G (z_rnm r a) = _; rw [z_rnm_ge ha]
  refine ⟨⟨by rw [e 1000 (by omega)]; exact h1, by rw [e 1000 (by omega)]; exact fun q => h1b (ho _ q)⟩, fun i hi => ?_, fun i q hq => ?_, h5.narrow ho, ⟨h6.1.narrow ho, h6.2⟩, h7, ?_, ?_⟩
  · rw [e (1001 + i) (by omega), e (1101 + i) (by omega)]
    exact ⟨(h3 i hi).1.narrow ho, (h3 i hi).2.1.narrow ho, (h3 i hi).2.2.1.narrow ho, (h3 i hi).2.2.2.narrow ho⟩
  · rw [e (1001 + i) (by omega)]; exact h4 i q hq
  · rw [e 1201 (by omega)]; exact ⟨h8.1.narrow ho, h8.2.narrow ho⟩
  · rw [e 1202 (by omega)]; exact ⟨h9.1.narrow ho, h9.2.narrow ho⟩
section ZFRAME
variable {M M' : z_M} {nz : Nat × Nat} {pc : Nat} {L : List (Nat × z_V)} {st : List z_V} {σ : z_S} {Q : Option z_V → z_S → Prop}
/-- cells forgotten -/
theorem z_fgt (k : Nat) (hk : nz.1 ≤ k) (kk : z_Sem M nz pc L st (σ.1.take k, σ.2) Q) : z_Sem M nz pc L st σ Q := by
  intro G p l e s m args below meth c Z H locs ls hX hZ hP hL hS hl hc
  have hle : (σ.1.take k).length ≤ σ.1.length := by rw [List.length_take]; omega
  refine kk G p l e s m args below meth c Z H locs ls hX hZ ?_ hL hS hl ⟨by show nz.1 ≤ (σ.1.take k).length; rw [List.length_take]; omega, hc.2⟩
  obtain ⟨⟨h1, h2, h3, h4, h5, h6, h7⟩, h8⟩ := hP
  refine ⟨⟨fun i q hq => ?_, Nat.le_trans hle h2, h3, h4, h5, fun i hi => h6 i (Nat.lt_of_lt_of_le hi hle), fun i j hi hj => h7 i j (Nat.lt_of_lt_of_le hi hle) (Nat.lt_of_lt_of_le hj hle)⟩, h8⟩
  simp only [z_ws, List.getElem?_mapIdx, Option.map_eq_some_iff] at hq
  obtain ⟨d, hd, rfl⟩ := hq
  rw [List.getElem?_take] at hd
  split at hd
  · exact h1 i _ (z_ws_get (G := G) hd)
  · cases hd
/-- other names -/
theorem z_ren (r : Nat → Nat) {sc : List z_C} {L' : List (Nat × z_V)} {st' : List z_V} (hp : z_pull r σ.1 sc) (hl : sc.length ≤ 1000) (h0 : nz.1 ≤ sc.length) (hr : ∀ a : Nat, a < nz.1 → r a = a) (hc0 : M.2.2.2.2.cells ≠ 0) (hL : L = L'.map (fun q => (q.1, z_rv r q.2))) (hst : st = st'.map (z_rv r))
    (kk : z_Sem M nz pc L' st' (sc, z_pw r σ.2) Q) : z_Sem M nz pc L st σ Q := by
  intro G p l e s m args below meth c Z H locs ls hX hZ hP hL1 hS1 hl1 hc
  subst hL hst
  have hsm : z_sm1 nz.1 G (z_pG G r G.2.2.1) := ⟨⟨fun a => z_ad G (z_rnm r a), rfl⟩, fun a ha => by
    show z_ad G (z_rnm r a) = z_ad G a
    rcases ha with h | h
    · rcases Nat.lt_or_ge a 1000 with h2 | h2
      · rw [z_rnm_lt h2, hr a h]
      · rw [z_rnm_ge h2]
    · rw [z_rnm_ge h]⟩
  have hag : z_ag M.2.2.2.2.cells nz.1 G (z_pG G r G.2.2.1) := hsm.ag hc0 (Nat.le_refl _)
  have key : ∀ (a : Nat), a < sc.length → r a < σ.1.length := fun a ha => (List.getElem?_eq_some_iff.mp (hp.1 a _ (List.getElem?_eq_getElem ha))).1
  have h9 := kk (z_pG G r G.2.2.1) p l e s m args below meth c Z H locs ls (hX.sm hsm) (hZ.ag hag) ⟨z_Pp hP.1 hp hl (fun a ha => hP.1.2.2.2.2.2.1 _ (key a ha)), hP.2⟩ (fun q hq => by
      have h := hL1 _ (List.mem_map.mpr ⟨q, hq, rfl⟩)
      rcases q with ⟨i, x | x | x | x | x⟩ <;> first | exact h | exact True.intro) (fun q hq => by
      have h := hS1 _ (List.mem_map.mpr ⟨q, hq, rfl⟩)
      rcases q with x | x | x | x | x <;> first | exact h | exact True.intro) (by
      have e : z_lo (z_pG G r G.2.2.1) L' = z_lo G (L'.map (fun q => (q.1, z_rv r q.2))) := by
        simp only [z_lo, List.map_map]
        exact List.map_congr_left (fun q _ => by simp only [Function.comp, z_cv_p])
      rw [e]; exact hl1) ⟨h0, hc.2⟩
  have e2 : st'.map (z_cv (z_pG G r G.2.2.1)) = (st'.map (z_rv r)).map (z_cv G) := by
    rw [List.map_map]
    exact List.map_congr_left (fun q _ => by simp only [Function.comp, z_cv_p])
  rw [e2] at h9
  exact h9
/-- a callee that makes cells, over the same memory -/
theorem z_callA {vs rest : List z_V} {rec : z_G → State → Heap → Prop} (hi : z_inv M M' pc vs rec) (hp : plainFor M'.1 = true)
    (hrec : ∀ (G : z_G) (p : Program) (s : State) (m : MethodId) (args : Array Value) (meth : Method) (c : Code) (H : Heap) (locs : List Loc), z_X G M nz.1 p s m args meth c → z_P G σ s H locs → rec G s H) (hst : st = vs.reverse ++ rest) (h1 : ∀ v ∈ vs, z_c1 v) (h2 : vs.length ≤ M'.2.2.1) (hw : z_wds rest ≤ 8)
    (hLv : z_lv σ.1.length L) (hSv : z_sv1 σ.1.length rest) (hcs : M'.2.2.2.2.cells ≤ M'.2.2.2.2.slots) (hc0 : M.2.2.2.2.cells ≠ 0) (hcc : nz.2 + M'.2.2.2.2.slots ≤ M.2.2.2.2.cells ∧ nz.2 + M'.2.2.2.2.slots ≤ M.2.2.2.2.slots)
    (k : z_Sem M' (σ.1.length, 0) 0 (z_la 0 vs) [] σ (fun v σ' => z_Sem M (nz.1, nz.2 + M'.2.2.2.2.slots) (pc + 3) L (v.toList ++ rest) σ' Q)) : z_Sem M nz pc L st σ Q := by
  intro G p l e s m args below meth c Z H locs ls hX hZ hP hL hS hl hc
  subst hst
  obtain ⟨hSA, hSr⟩ := z_Rs hS
  have hM := z_met k hp h1 h2 hSA l G
  have hr := hi G nz.1 p l e s m args below meth c H locs nz.2 nz.2 ls rest _ _ _ hX (hrec G p s m args meth c H locs hX hP) hM (z_blind G σ _) (fun U hU hW => z_pre hX hP vs U hU hW) hl.1 hw (by omega)
  refine z_after hr hP.2 (fun q h => h) (fun G' v σ' H1 locs1 hag hQ hv hn hP1 _ _ hS1 => ?_)
  have hsm := hag.sm
  have hG : G'.2.2.1 = G.2.2.1 := by obtain ⟨⟨f, rfl⟩, -⟩ := hsm; rfl
  have hag2 : z_ag M.2.2.2.2.cells nz.1 G G' := hsm.ag hc0 hc.1
  have h9 := hQ G' p l e s m args below meth c Z H1 locs1 ls (hX.sm hsm) (hZ.ag hag2) ⟨hP1, by rw [hG]; exact hS1⟩ hL (fun q hq => ?_) (by rw [z_lo_vv hsm hLv]; exact hl) ⟨Nat.le_trans hc.1 hn, hcc⟩
  · refine W.widen (k := nz.2 + M'.2.2.2.2.slots) (n := nz.2 + M'.2.2.2.2.slots) (by omega) (Nat.le_refl _) ?_
    rw [show (v.map (z_cv G')).toList ++ rest.map (z_cv G) = (v.toList ++ rest).map (z_cv G') by rw [List.map_append, z_st_vv hsm hSv]; cases v <;> simp]
    exact h9
  · rcases List.mem_append.mp hq with h | h
    · exact hv q (by cases v with | none => cases h | some x => simp at h; rw [h])
    · exact hSr q h
/-- the addresses that a callee is handed -/
def z_oc (G : z_G) (r : Nat → Nat) (k : Nat) (H : Heap) : Nat → Prop := fun q => (∃ a : Nat, a < k ∧ q = z_ad G (r a)) ∨ H.size ≤ q
theorem z_oc_own {G : z_G} {n0 : Nat} {p : Program} {s : State} {m : MethodId} {args : Array Value} {meth : Method} {c : Code} {H : Heap} {locs : List Loc} {r : Nat → Nat} {sc : List z_C} (hX : z_X G M n0 p s m args meth c) (hP : z_P G σ s H locs) (hp : z_pull r σ.1 sc) : ∀ q, z_oc G r sc.length H q → G.2.2.1 q := by
  intro q hq
  rcases hq with ⟨a, ha, rfl⟩ | h
  · exact hP.1.2.2.2.2.2.1 _ (List.getElem?_eq_some_iff.mp (hp.1 a _ (List.getElem?_eq_getElem ha))).1
  · exact hX.2.2.2.2.2.2.2.2.2.2 q (Nat.le_trans hP.2.1 h)
theorem z_preP {G : z_G} {n0 : Nat} {p : Program} {s : State} {m : MethodId} {args : Array Value} {meth : Method} {c : Code} {H : Heap} {locs : List Loc} {r : Nat → Nat} {sc : List z_C} (hX : z_X G M n0 p s m args meth c) (hP : z_P G σ s H locs) (hp : z_pull r σ.1 sc) (hl : sc.length ≤ 1000) (vs : List z_V) (U : State) (hU : U.heap = H) (hW : s.WarmedH U.vm) : z_Pc (z_pG G r (z_oc G r sc.length H)) (sc, z_pw r σ.2) vs ((vs.map (z_rv r)).map (z_cv G)).toArray U := by
  obtain ⟨a1, a2, a3, a4, -⟩ := z_pre hX hP [] U hU hW
  refine ⟨?_, a2, a3.narrow (z_oc_own hX hP hp), ?_, ?_⟩
  · rw [List.map_map]
    congr 1
    exact List.map_congr_left (fun q _ => by simp only [Function.comp, z_cv_p])
  · rw [hU]; exact fun q hq => Or.inr hq
  · rw [hU]; exact z_Pp hP.1 hp hl (fun a ha => Or.inl ⟨a, ha, rfl⟩)
/-- a memory of which a callee has changed its part -/
def z_mw (r : Nat → Nat) (k : Nat) (w w' : Nat → Int → Int) : Nat → Int → Int := fun a => match (List.range k).find? (fun b => r b == a) with
  | some b => w' b
  | none => w a
theorem z_mw_in {r : Nat → Nat} {k b : Nat} {w w' : Nat → Int → Int} (hj : ∀ a b : Nat, a < k → b < k → r a = r b → a = b) (hb : b < k) : z_mw r k w w' (r b) = w' b := by
  unfold z_mw
  have h : (List.range k).find? (fun c => r c == r b) = some b := by
    rw [List.find?_eq_some_iff_append]
    refine ⟨by simp, List.range b, (List.range' (b + 1) (k - b - 1)), ?_, fun a ha => ?_⟩
    · rw [List.range_eq_range', List.range_eq_range', show b :: List.range' (b + 1) (k - b - 1) = List.range' b (k - b) by rw [show k - b = (k - b - 1) + 1 by omega, List.range'_succ]; simp]
      rw [show List.range' 0 k = List.range' 0 (b + (k - b)) by congr 1; omega, ← List.range'_append_1]
      simp
    · have := List.mem_range.mp ha
      simp only [Bool.not_eq_true', beq_eq_false_iff_ne, ne_eq]
      intro q
      have := hj a b (by omega) hb q
      omega
  rw [h]
theorem z_mw_out {r : Nat → Nat} {k a : Nat} {w w' : Nat → Int → Int} (h : ∀ b : Nat, b < k → r b ≠ a) : z_mw r k w w' a = w a := by
  unfold z_mw
  have : (List.range k).find? (fun b => r b == a) = none := by
    rw [List.find?_eq_none]
    intro b hb
    simp only [beq_iff_eq]
    exact h b (List.mem_range.mp hb)
  rw [this]
theorem z_mw_cs (r : Nat → Nat) (k a : Nat) (w w' : Nat → Int → Int) : (∃ b, b < k ∧ r b = a ∧ z_mw r k w w' a = w' b) ∨ ((∀ b : Nat, b < k → r b ≠ a) ∧ z_mw r k w w' a = w a) := by
  unfold z_mw
  cases h : (List.range k).find? (fun b => r b == a) with
  | some b =>
    have h1 := List.find?_some h
    have h2 := List.mem_of_find?_eq_some h
    exact Or.inl ⟨b, List.mem_range.mp h2, by simpa using h1, rfl⟩
  | none =>
    refine Or.inr ⟨fun b hb q => ?_, rfl⟩
    have := List.find?_eq_none.mp h b (List.mem_range.mpr hb)
    simp [q] at this
/-- a callee over a part of the memory, whose shape it keeps -/
theorem z_callP (r : Nat → Nat) {sc : List z_C} {vs rest : List z_V} {rec : z_G → State → Heap → Prop} (hi : z_inv M M' pc (vs.map (z_rv r)) rec) (hy : plainFor M'.1 = true)
    (hrec : ∀ (G : z_G) (p : Program) (s : State) (m : MethodId) (args : Array Value) (meth : Method) (c : Code) (H : Heap) (locs : List Loc), z_X G M nz.1 p s m args meth c → z_P G σ s H locs → rec G s H) (hst : st = (vs.map (z_rv r)).reverse ++ rest) (h1 : ∀ v ∈ vs, z_c1 v) (h2 : vs.length ≤ M'.2.2.1) (hw : z_wds rest ≤ 8)
    (hp : z_pull r σ.1 sc) (hl : sc.length ≤ 1000) (hlo : z_cls0 sc) (hcs : M'.2.2.2.2.cells ≤ M'.2.2.2.2.slots) (hcc : nz.2 + M'.2.2.2.2.slots ≤ M.2.2.2.2.cells ∧ nz.2 + M'.2.2.2.2.slots ≤ M.2.2.2.2.slots)
    (k : z_Sem M' (sc.length, 0) 0 (z_la 0 vs) [] (sc, z_pw r σ.2) (fun v σ' => σ'.1 = sc ∧ (∀ x, v = some x → z_vv sc.length x) ∧ z_Sem M (nz.1, nz.2 + M'.2.2.2.2.slots) (pc + 3) L ((v.map (z_rv r)).toList ++ rest) (σ.1, z_mw r sc.length σ.2 σ'.2) Q)) : z_Sem M nz pc L st σ Q := by
  intro G p l e s m args below meth c Z H locs ls hX hZ hP hL hS hl1 hc
  subst hst
  obtain ⟨hSA, hSr⟩ := z_Rs hS
  have hSA2 : ∀ v ∈ vs, z_Rv v := fun v hv => by
    have h := hSA _ (List.mem_map.mpr ⟨v, hv, rfl⟩)
    rcases v with x | x | x | x | x <;> first | exact h | exact True.intro
  have hM := z_met (σ := (sc, z_pw r σ.2)) k hy h1 h2 hSA2 l (z_pG G r (z_oc G r sc.length H))
  have hr := hi G nz.1 p l e s m args below meth c H locs nz.2 nz.2 ls rest _ _ _ hX (hrec G p s m args meth c H locs hX hP) hM (z_blind _ _ _) (fun U hU hW => z_preP hX hP hp hl vs U hU hW) hl1.1 hw (by omega)
  refine z_after hr hP.2 (z_oc_own hX hP hp) (fun G' v σ' H1 locs1 hag hQ hv hn hP1 ho hz1 hS1 => ?_)
  obtain ⟨hs1, hvv, hQ⟩ := hQ
  have hsm := hag.sm
  have key : ∀ (a : Nat), a < sc.length → r a < σ.1.length := fun a ha => (List.getElem?_eq_some_iff.mp (hp.1 a _ (List.getElem?_eq_getElem ha))).1
  have hPn : z_P0 G (σ.1, z_mw r sc.length σ.2 σ'.2) H1 := by
    obtain ⟨⟨b1, b2, b3, b4, b5, b6, b7⟩, -⟩ := hP
    have far : ∀ a : Nat, 1000 ≤ a → z_mw r sc.length σ.2 σ'.2 a = σ.2 a := fun a ha => z_mw_out (fun b hb q => by have := key b hb; omega)
    refine ⟨fun i q hq => ?_, b2, fun a i => ?_, fun j hj => by show z_mw _ _ _ _ _ _ = _; rw [far 1000 (Nat.le_refl _)]; exact b4 j hj, by show z_mw _ _ _ _ _ _ = _; rw [far 1001 (by omega)]; exact b5, b6, b7⟩
    · simp only [z_ws, List.getElem?_mapIdx, Option.map_eq_some_iff] at hq
      obtain ⟨d, hd, rfl⟩ := hq
      have hdl := (List.getElem?_eq_some_iff.mp hd).1
      rcases z_mw_cs r sc.length i σ.2 σ'.2 with ⟨b, hb, hbi, he⟩ | ⟨hno, he⟩
      · rw [he]
        have hc2 := List.getElem?_eq_getElem hb
        have hd2 := hp.1 b _ hc2
        rw [hbi, hd] at hd2
        have hd3 : d = z_rc r sc[b] := Option.some.inj hd2
        have hc3 : σ'.1[b]? = some sc[b] := by rw [hs1]; exact hc2
        have e1 := hP1.1 b _ (z_ws_get (G := G') hc3)
        rw [z_cell_vc hsm (hlo _ (List.mem_of_getElem? hc2)), z_cell_p, hsm.2 b (Or.inl hb), ← hd3] at e1
        have e2 : G'.1 = G.1 := by obtain ⟨⟨f, rfl⟩, -⟩ := hsm; rfl
        rw [e2] at e1
        have e3 : z_ad (z_pG G r (z_oc G r sc.length H)) b = z_ad G i := by show z_ad G (z_rnm r b) = _; rw [z_rnm_lt (by omega), hbi]
        rw [e3] at e1
        exact e1
      · rw [he]
        have e1 := b1 i _ (z_ws_get (G := G) hd)
        refine e1.kept (ho _ e1.lt ?_)
        rintro (⟨a, ha, hq⟩ | hq)
        · exact hno a ha (b7 _ _ (key a ha) hdl hq.symm)
        · have := e1.lt; simp only at this hq; omega
    · rcases z_mw_cs r sc.length a σ.2 σ'.2 with ⟨b, hb, hbi, he⟩ | ⟨hno, he⟩
      · show z_R (z_mw _ _ _ _ a i); rw [he]; exact hP1.2.2.1 b i
      · show z_R (z_mw _ _ _ _ a i); rw [he]; exact b3 a i
  have h9 := hQ G p l e s m args below meth c Z H1 locs1 ls hX hZ ⟨hPn, hS1⟩ hL (fun q hq => ?_) hl1 ⟨hc.1, hcc⟩
  · refine W.widen (k := nz.2 + M'.2.2.2.2.slots) (n := nz.2 + M'.2.2.2.2.slots) (by omega) (Nat.le_refl _) ?_
    have e : (v.map (z_cv G')).toList = (v.map (z_rv r)).toList.map (z_cv G) := by
      cases v with
      | none => rfl
      | some x =>
        show [z_cv G' x] = [z_cv G (z_rv r x)]
        rw [z_cv_vv hsm (hvv x rfl), z_cv_p]
    rw [e, ← List.map_append]
    exact h9
  · rcases List.mem_append.mp hq with h | h
    · cases v with
      | none => cases h
      | some x =>
        simp at h
        subst h
        have := hv x rfl
        rcases x with x | x | x | x | x <;> first | exact this | exact True.intro
    · exact hSr q h
/-- a constructor that is handed the last cell alone -/
def z_mL (n : Nat) (w w' : Nat → Int → Int) : Nat → Int → Int := fun a => if n ≤ a ∧ a < 1000 then w' (a - n) else w a
theorem z_callL {pre : List z_C} {c0 : z_C} {w : Nat → Int → Int} {n : Nat} {rest : List z_V} {rec : z_G → State → Heap → Prop} (hi : z_inv M M' pc [z_r n] rec) (hy : plainFor M'.1 = true)
    (hrec : ∀ (G : z_G) (p : Program) (s : State) (m : MethodId) (args : Array Value) (meth : Method) (c : Code) (H : Heap) (locs : List Loc), z_X G M nz.1 p s m args meth c → z_P G (pre ++ [c0], w) s H locs → rec G s H) (hst : st = z_r n :: rest) (h2 : 1 ≤ M'.2.2.1) (hw : z_wds rest ≤ 8)
    (hn : pre.length = n) (h0 : nz.1 ≤ n) (hc00 : z_vc 0 c0) (hpl : z_cl1 n pre) (hLv : z_lv (n + 1) L) (hSv : z_sv1 (n + 1) rest) (hcs : M'.2.2.2.2.cells ≤ M'.2.2.2.2.slots) (hc0 : M.2.2.2.2.cells ≠ 0) (hcc : nz.2 + M'.2.2.2.2.slots ≤ M.2.2.2.2.cells ∧ nz.2 + M'.2.2.2.2.slots ≤ M.2.2.2.2.slots)
    (k : z_Sem M' (1, 0) 0 [(0, z_r 0)] [] ([c0], z_pw (fun a => n + a) w) (fun v σ' => v = none ∧ z_cls0 σ'.1 ∧ n + σ'.1.length ≤ 1000 ∧ z_Sem M (nz.1, nz.2 + M'.2.2.2.2.slots) (pc + 3) L rest (pre ++ σ'.1.map (z_rc (fun a => n + a)), z_mL n w σ'.2) Q)) : z_Sem M nz pc L st (pre ++ [c0], w) Q := by
  intro G p l e s m args below meth c Z H locs ls hX hZ hP hL hS hl1 hc
  subst hst
  subst hn
  have hlen : (pre ++ [c0]).length = pre.length + 1 := by simp
  have hlt1 : pre.length < 1000 := by have := hP.1.2.1; rw [show ((pre ++ [c0], w) : z_S).1.length = pre.length + 1 from hlen] at this; omega
  have hrc0 : z_rc (fun a => pre.length + a) c0 = c0 := by
    have h8 : ∀ a, ¬ (a < 0 ∨ 1000 ≤ a) ∨ 1000 ≤ a := by omega
    rcases c0 with ⟨ci, fl⟩ | ⟨kd, q⟩ | rs
    · show Sum.inl (ci, fl.map _) = Sum.inl (ci, fl)
      congr 2
      conv => rhs; rw [← List.map_id fl]
      refine List.map_congr_left (fun o ho => ?_)
      rcases o with _ | _ | a
      · rfl
      · rfl
      · have := hc00 _ ho a rfl
        show some (some (z_rnm _ a)) = some (some a)
        rw [z_rnm_ge (by omega)]
    · rfl
    · show Sum.inr (Sum.inr (rs.map _)) = Sum.inr (Sum.inr rs)
      congr 2
      conv => rhs; rw [← List.map_id rs]
      refine List.map_congr_left (fun o ho => ?_)
      rcases o with _ | a
      · rfl
      · have := hc00 _ ho a rfl
        show some (z_rnm _ a) = some a
        rw [z_rnm_ge (by omega)]
  have hp : z_pull (fun a => pre.length + a) (pre ++ [c0]) [c0] := by
    refine ⟨fun a d hd => ?_, fun a b _ _ q => by simp only at q; omega⟩
    have hal := (List.getElem?_eq_some_iff.mp hd).1
    have : a = 0 := by simp at hal; exact hal
    subst this
    have : d = c0 := by simpa using hd.symm
    subst this
    rw [hrc0]
    simp
  have hSr : ∀ q ∈ rest, z_Rv q := fun q hq => hS q (List.mem_cons_of_mem _ hq)
  have hM := z_met (σ := ([c0], z_pw (fun a => pre.length + a) w)) (vs := [z_r 0]) k hy (fun v hv => by rw [List.mem_singleton.mp hv]; exact True.intro) h2 (fun v hv => by rw [List.mem_singleton.mp hv]; exact True.intro) l (z_pG G (fun a => pre.length + a) (z_oc G (fun a => pre.length + a) 1 H))
  have hr := hi G nz.1 p l e s m args below meth c H locs nz.2 nz.2 ls rest _ _ _ hX (hrec G p s m args meth c H locs hX hP) hM (z_blind _ _ _) (fun U hU hW => z_preP (σ := (pre ++ [c0], w)) (vs := [z_r 0]) hX hP hp (Nat.le_of_ble_eq_true rfl) U hU hW) hl1.1 hw (by omega)
  refine z_after hr hP.2 (z_oc_own (σ := (pre ++ [c0], w)) hX hP hp) (fun G' v σ' H1 locs1 hag hQ hv hn hP1 ho hz1 hS1 => ?_)
  obtain ⟨rfl, hclo, hl2, hQ⟩ := hQ
  have hn : 1 ≤ σ'.1.length := hn
  obtain ⟨⟨b1, b2, b3, b4, b5, b6, b7⟩, bS⟩ := hP
  have b6 : ∀ i : Nat, i < pre.length + 1 → G.2.2.1 (z_ad G i) := fun i hi => b6 i (by show i < (pre ++ [c0]).length; omega)
  have b7 : ∀ i j : Nat, i < pre.length + 1 → j < pre.length + 1 → z_ad G i = z_ad G j → i = j := fun i j hi hj => b7 i j (by show i < (pre ++ [c0]).length; omega) (by show j < (pre ++ [c0]).length; omega)
  have hsm := hag.sm
  have hpreAt : ∀ (i : Nat) (d : z_C), pre[i]? = some d → va_at G.1 z_Cl (z_ad G i, z_cell G (w i) d) H := fun i d hd => by
    have hil := (List.getElem?_eq_some_iff.mp hd).1
    exact b1 i _ (z_ws_get (G := G) (σ := (pre ++ [c0], w)) (by show (pre ++ [c0])[i]? = _; rw [List.getElem?_append_left hil]; exact hd))
  have had0 : z_ad G' 0 = z_ad G pre.length := by
    rw [hsm.2 0 (Or.inl Nat.zero_lt_one)]
    show z_ad G (z_rnm _ 0) = _
    rw [z_rnm_lt (by decide)]; rfl
  have hadO : ∀ a : Nat, 1000 ≤ a → z_ad G' a = z_ad G a := fun a ha => by
    rw [hsm.2 a (Or.inr ha)]
    show z_ad G (z_rnm _ a) = _
    rw [z_rnm_ge ha]
  have e1 : G'.1 = G.1 ∧ G'.2.1 = G.2.1 ∧ G'.2.2.1 = z_oc G (fun a => pre.length + a) 1 H ∧ G'.2.2.2.2 = G.2.2.2.2 := by obtain ⟨⟨f, rfl⟩, -⟩ := hsm; exact ⟨rfl, rfl, rfl, rfl⟩
  -- the names from here on
  let G2 : z_G := z_wa G (fun a => if pre.length ≤ a ∧ a < 1000 then z_ad G' (a - pre.length) else z_ad G a)
  have had2 : ∀ a : Nat, z_ad G2 a = if pre.length ≤ a ∧ a < 1000 then z_ad G' (a - pre.length) else z_ad G a := fun a => rfl
  have hsm2 : z_sm1 (pre.length + 1) G G2 := ⟨⟨_, rfl⟩, fun a ha => by
    rw [had2]
    split
    · have : a = pre.length := by omega
      subst this
      rw [Nat.sub_self]; exact had0
    · rfl⟩
  have hag2 : z_ag M.2.2.2.2.cells nz.1 G G2 := hsm2.ag hc0 (by omega)
  have hoc : ∀ j : Nat, j < σ'.1.length → z_ad G' j = z_ad G pre.length ∨ H.size ≤ z_ad G' j := fun j hj => by
    have := hP1.2.2.2.2.2.1 j hj
    rw [e1.2.2.1] at this
    rcases this with ⟨a, ha, hq⟩ | h
    · left
      have : a = 0 := by omega
      subst this
      exact hq
    · exact Or.inr h
  have hobj : z_ad G pre.length < H.size := (b1 pre.length _ (z_ws_get (G := G) (σ := (pre ++ [c0], w)) (by show (pre ++ [c0])[pre.length]? = some c0; simp))).lt
  have hPn : z_P0 G2 (pre ++ σ'.1.map (z_rc (fun a => pre.length + a)), z_mL pre.length w σ'.2) H1 := by
    have hlen2 : (pre ++ σ'.1.map (z_rc (fun a => pre.length + a))).length = pre.length + σ'.1.length := by simp
    refine ⟨fun i q hq => ?_, by show (pre ++ _).length ≤ _; rw [hlen2]; exact hl2, fun a i => ?_, fun j hj => ?_, ?_, fun i hi => ?_, fun i j hi hj hij => ?_⟩
    · simp only [z_ws, List.getElem?_mapIdx, Option.map_eq_some_iff] at hq
      obtain ⟨d, hd, rfl⟩ := hq
      show va_at G.1 z_Cl _ H1
      rcases Nat.lt_or_ge i pre.length with hi | hi
      · rw [List.getElem?_append_left hi] at hd
        have e2 := hpreAt i d hd
        rw [hsm2.2 i (Or.inl (by omega)), show z_mL pre.length w σ'.2 i = w i from if_neg (by omega), z_cell_vc (hsm2.le (by omega : pre.length ≤ pre.length + 1)) (hpl d (List.mem_of_getElem? hd))]
        refine e2.kept (ho _ e2.lt ?_)
        rintro (⟨a, ha, hq⟩ | hq)
        · have : a = 0 := by omega
          subst this
          have := b7 i pre.length (by omega) (by omega) hq
          omega
        · have := e2.lt; simp only at this hq; omega
      · have hil := (List.getElem?_eq_some_iff.mp hd).1
        rw [hlen2] at hil
        rw [List.getElem?_append_right hi, List.getElem?_map] at hd
        obtain ⟨d2, hd2, rfl⟩ := Option.map_eq_some_iff.mp hd
        have e2 := hP1.1 (i - pre.length) _ (z_ws_get (G := G') hd2)
        rw [e1.1] at e2
        rw [had2 i, if_pos (by omega), show z_mL pre.length w σ'.2 i = σ'.2 (i - pre.length) from if_pos (by omega)]
        have e3 : z_cell G2 (σ'.2 (i - pre.length)) (z_rc (fun a => pre.length + a) d2) = z_cell G' (σ'.2 (i - pre.length)) d2 := by
          rw [← z_cell_p G2 (fun a => pre.length + a) G'.2.2.1]
          refine z_cell_vc (n := σ'.1.length) ⟨⟨fun a => z_ad G2 (z_rnm (fun a => pre.length + a) a), ?_⟩, fun a ha => ?_⟩ (hclo _ (List.mem_of_getElem? hd2)) _
          · show (G.1, G.2.1, G'.2.2.1, _, G.2.2.2.2) = (G'.1, G'.2.1, G'.2.2.1, _, G'.2.2.2.2)
            rw [e1.1, e1.2.1, e1.2.2.2]
          · show z_ad G2 (z_rnm (fun a => pre.length + a) a) = z_ad G' a
            rcases Nat.lt_or_ge a 1000 with h3 | h3
            · rw [z_rnm_lt h3, had2, if_pos (by omega)]
              congr 1
              omega
            · rw [z_rnm_ge h3, had2, if_neg (by omega), hadO a h3]
        rw [e3]
        exact e2
    · show z_R (z_mL pre.length w σ'.2 a i)
      unfold z_mL
      split
      · exact hP1.2.2.1 _ _
      · exact b3 _ _
    · show z_mL pre.length w σ'.2 1000 (j : Int) = _
      unfold z_mL
      rw [if_neg (by omega)]; exact b4 j hj
    · show z_mL pre.length w σ'.2 1001 0 = _
      unfold z_mL
      rw [if_neg (by omega)]; exact b5
    · have hi : i < pre.length + σ'.1.length := by rw [← hlen2]; exact hi
      show G.2.2.1 (z_ad G2 i)
      rw [had2]
      split
      · rcases hoc (i - pre.length) (by omega) with h | h
        · rw [h]; exact b6 _ (by omega)
        · exact hX.2.2.2.2.2.2.2.2.2.2 _ (Nat.le_trans bS.1 h)
      · exact b6 i (by omega)
    · have hi : i < pre.length + σ'.1.length := by rw [← hlen2]; exact hi
      have hj : j < pre.length + σ'.1.length := by rw [← hlen2]; exact hj
      rw [had2, had2] at hij
      have lo : ∀ k : Nat, k < pre.length → ∀ a : Nat, a < σ'.1.length → z_ad G k ≠ z_ad G' a := fun k hk a ha q => by
        have hklt := (hpreAt k _ (List.getElem?_eq_getElem hk)).lt
        simp only at hklt
        rcases hoc a ha with h | h
        · have := b7 k pre.length (by omega) (by omega) (by rw [q]; exact h)
          omega
        · omega
      split at hij <;> split at hij
      · have := hP1.2.2.2.2.2.2 _ _ (by omega) (by omega) hij
        omega
      · exact absurd hij.symm (lo j (by omega) _ (by omega))
      · exact absurd hij (lo i (by omega) _ (by omega))
      · exact b7 i j (by omega) (by omega) hij
  have h9 := hQ G2 p l e s m args below meth c Z H1 locs1 ls (hX.sm hsm2) (hZ.ag hag2) ⟨hPn, hS1⟩ hL hSr (by rw [z_lo_vv hsm2 hLv]; exact hl1) ⟨by show nz.1 ≤ (pre ++ _).length; rw [List.length_append]; omega, hcc⟩
  refine W.widen (k := nz.2 + M'.2.2.2.2.slots) (n := nz.2 + M'.2.2.2.2.slots) (by omega) (Nat.le_refl _) ?_
  rw [z_st_vv hsm2 hSv] at h9
  exact h9
end ZFRAME
