section ZRULES3
variable {M : z_M} {nz : Nat × Nat} {pc : Nat} {L : List (Nat × z_V)} {st : List z_V} {σ : z_S} {Q : Option z_V → z_S → Prop}
/-- the end -/
theorem z_ret {v : Option z_V} {ins : Instr} (hd : decode M.2.1 pc = .ok (ins, 1)) (hrk : z_rk M.2.2.2.1 v ins) (hlen : σ.1.length = nz.1 + M.2.2.2.2.cells) (hst : st = v.toList) (k : Q v σ) : z_Sem M nz pc L st σ Q := by
  intro G p l e s m args below meth c Z H locs ls hX hZ hP hL hS hl hc
  subst hst
  rw [show σ.1.length - nz.1 = M.2.2.2.2.cells by omega]
  exact hZ v σ H locs nz.2 pc ls ins k hP (fun x hx => hS x (by rw [hx]; simp)) hlen hc.2.2 hrk hd
theorem z_objInit {a idx : Nat} (hlk : Cond.methodLink M.1.cls idx Lib.objectInit ∈ z_tb) (hin : Cond.instanceMethod Lib.objectInit ∈ z_tb) (hco : Cond.code Lib.objectInit ⟨#[0xb1]⟩ 1 none ∈ z_tb) (hrm : 1 ≤ M.2.2.2.2.frames ∧ z_wds st + 12 ≤ M.2.2.2.2.locals) (hd : decode M.2.1 pc = .ok (.invokespecial idx, 3)) (kk : z_Sem M nz (pc + 3) L st σ Q) : z_Sem M nz pc L (z_r a :: st) σ Q := by
  intro G p l e s m args below meth c Z H locs ls hX hZ hP hL hS hl hc
  have ht := hX.2.2.2.2.2.1
  refine W.objInit (g := F0 m pc ls ((z_r a :: st).map (z_cv G))) (rest := st.map (z_cv G)) hX.1 hX.2.1 hX.2.2.2.2.1 (ht _ hlk) (ht _ hin) (ht _ hco) rfl (by rw [hX.2.2.2.1]; exact hl.1) rfl hd hrm.1 (by rw [z_wds_cat]; show 2 * 0 + _ + _ ≤ _; omega) ?_
  exact kk G p l e s m args below meth c Z H locs ls hX hZ hP hL (z_RvC hS).2 hl hc
theorem z_lower {G : z_G} {σ : z_S} {s : State} {H : Heap} {locs : List Loc} (hP : z_P G σ s H locs) (hb : G.2.2.1 ≤ s.heap.size) : G.2.2.1 + σ.1.length ≤ H.size := by
  rcases Nat.eq_zero_or_pos σ.1.length with h | h
  · rw [h]; exact Nat.le_trans hb hP.2.1
  · have h1 : σ.1[σ.1.length - 1]? = some (σ.1[σ.1.length - 1]'(by omega)) := List.getElem?_eq_getElem (by omega)
    have h2 := (hP.1.1 _ _ (z_ws_get (G := G) h1)).lt
    simp only at h2
    omega
/-- memory with a new cell -/
def z_nw (σ : z_S) (c : z_C) : z_S := (σ.1 ++ [c], fun b => if b = σ.1.length then fun _ => 0 else σ.2 b)
theorem z_ws_nw (G : z_G) (σ : z_S) (c : z_C) : z_ws G (z_nw σ c) = z_ws G σ ++ [(G.2.2.1 + σ.1.length, z_cell G (fun _ => 0) c)] := by
  unfold z_ws z_nw
  rw [List.mapIdx_append]
  congr 1
  · apply List.ext_getElem?
    intro i
    simp only [List.getElem?_mapIdx]
    cases h : σ.1[i]? with
    | none => rfl
    | some q =>
      have hl := (List.getElem?_eq_some_iff.mp h).1
      have : ¬ i = σ.1.length := by omega
      simp [this]
  · simp
theorem z_Pnw {G : z_G} {σ : z_S} {s : State} {H H1 : Heap} {locs : List Loc} (hP : z_P G σ s H locs) (c : z_C) (hlen : σ.1.length < 1000) (h : va_P G.1 vwCl (z_ws G σ ++ [(G.2.2.1 + σ.1.length, z_cell G (fun _ => 0) c)]) H1) (hS1 : va_S (fun q => G.2.2.1 ≤ q) s.heap H1 locs) : z_P G (z_nw σ c) s H1 locs := by
  obtain ⟨⟨h1, h2, h3, h4, h5⟩, h6⟩ := hP
  refine ⟨⟨by rw [z_ws_nw]; exact h, by simp [z_nw]; omega, fun b i => ?_, fun j hj => ?_, ?_⟩, hS1⟩
  · show z_R ((if b = σ.1.length then fun _ => 0 else σ.2 b) i)
    split
    · exact z_zero
    · exact h3 b i
  · show (if 1000 = σ.1.length then fun _ => 0 else σ.2 1000) (j : Int) = _
    rw [if_neg (by omega)]; exact h4 j hj
  · show (if 1001 = σ.1.length then fun _ => 0 else σ.2 1001) 0 = _
    rw [if_neg (by omega)]; exact h5
theorem z_new {idx ci : Nat} {C : String} {T : u_T} {N : Nat} {ty : Nat → FieldType} {fl : List (Option (Option Nat))} (hcl : z_cls ci C T N ty) (hlk : Cond.classLink M.1.cls idx C ∈ z_tb) (hins : Cond.instantiable C N ∈ z_tb) (hini : Cond.initialized C ∈ z_tb) (hfl : fl.length = N ∧ ∀ j, j < N → (fl[j]? = some none ∧ defaultValue (ty j) = .int 0) ∨ (fl[j]? = some (some none) ∧ defaultValue (ty j) = .null)) (hlen : σ.1.length < 1000)
    (hcc : σ.1.length + 1 ≤ nz.1 + M.2.2.2.2.cells ∧ nz.2 + N ≤ M.2.2.2.2.slots) (hd : decode M.2.1 pc = .ok (.new idx, 3)) (kk : z_Sem M (nz.1, nz.2 + N) (pc + 3) L (z_r σ.1.length :: st) (z_nw σ (.inl (ci, fl))) Q) : z_Sem M nz pc L st σ Q := by
  intro G p l e s m args below meth c Z H locs ls hX hZ hP hL hS hl hc
  obtain ⟨c1, c2, c3, c4⟩ := hcl
  have ht := hX.2.2.2.2.2.1
  have hKn := hX.2.2.2.2.2.2.2.2.1.1 ci _ c1
  refine z_size (fun hsz => ?_)
  have hlow := z_lower hP hX.2.2.2.2.2.2.2.2.2.2.1
  have hup := hX.2.2.2.2.2.2.2.2.2.2.2
  have hH : H.size = G.2.2.1 + σ.1.length := by omega
  refine W.newcK hX.1 hX.2.1 hX.2.2.2.2.1 (ht _ hlk) (ht _ hins) (ht _ hini) rfl hd (by omega) hcc.2 hKn.2.1 rfl fun H1 kC hkC e1 z1 o1 => ?_
  have hk : ∀ (k : Nat) (x : Nat × va_E), (z_ws G σ)[k]? = some x → H1[x.1]? = H[x.1]? := fun k x hx => o1 x.1 ((hP.1.1 k x hx).lt)
  have hb := u_born ty ht c2 hKn hkC e1 c3
  have hP1 : va_P G.1 vwCl (z_ws G σ ++ [(G.2.2.1 + σ.1.length, z_cell G (fun _ => 0) (.inl (ci, fl)))]) H1 := by
    refine (hP.1.1.kept hk).app (fun k x hx => ?_)
    have hz : k < 1 := (List.getElem?_eq_some_iff.mp hx).1
    rw [show k = 0 by omega] at hx
    cases hx
    refine ⟨_, c1, ?_⟩
    rw [← hH]
    refine hb.to (fun j hj => ?_)
    have hlt : j < fl.length := by rw [hfl.1]; exact hj
    rcases hfl.2 j hj with ⟨h1, h2⟩ | ⟨h1, h2⟩
    · rw [h2]
      simp [vp_V, List.getD_eq_getElem?_getD, List.getElem?_mapIdx, h1, z_fld]
    · rw [h2]
      simp [vp_V, List.getD_eq_getElem?_getD, List.getElem?_mapIdx, h1, z_fld]
  have hS1 : va_S (fun q => G.2.2.1 ≤ q) s.heap H1 locs := ⟨Nat.le_trans hP.2.1 (by omega), fun x h1 h2 => (o1 x (Nat.lt_of_lt_of_le h1 hP.2.1)).trans (hP.2.2.1 x h1 h2), hP.2.2.2⟩
  have hP2 := z_Pnw hP (.inl (ci, fl)) hlen hP1 hS1
  have hle : (z_nw σ (.inl (ci, fl))).1.length = σ.1.length + 1 := by simp [z_nw]
  have h9 := kk G p l e s m args below meth c Z H1 locs ls hX hZ hP2 hL (z_RvN hS) hl ⟨by rw [hle]; show nz.1 ≤ _; omega, by rw [hle]; exact hcc.1, hcc.2⟩
  rw [hle] at h9
  rw [show σ.1.length - nz.1 + 1 = σ.1.length + 1 - nz.1 by omega]
  rw [List.map_cons, show z_cv G (z_r σ.1.length) = .ref H.size by show Value.ref (z_ad G _) = _; rw [z_ad_lt hlen, hH]] at h9
  exact h9
theorem z_cls1 {s : State} {t : String} {a b : ClassId} (h1 : s.vm.findClass t = some a) (h2 : s.vm.findClass t = some b) : a = b := Option.some.inj (h1.symm.trans h2)
theorem z_newa {at0 : ArrayType} {kd N : Nat} {ty : FieldType} (hkd : (kd = 0 ∧ at0 = .int) ∨ (kd = 1 ∧ at0 = .boolean) ∨ (kd = 2 ∧ at0 = .byte)) (hw : Cond.arrayClass (newarray.typeOf at0) ∈ z_tb) (hN : N * 4 ≤ 536870912) (hlen : σ.1.length < 1000)
    (hcc : σ.1.length + 1 ≤ nz.1 + M.2.2.2.2.cells ∧ nz.2 + N ≤ M.2.2.2.2.slots) (hd : decode M.2.1 pc = .ok (.newarray at0, 2)) (kk : z_Sem M (nz.1, nz.2 + N) (pc + 2) L (z_r σ.1.length :: st) (z_nw σ (.inr (.inl (kd, N)))) Q) : z_Sem M nz pc L (z_i (N : Int) :: st) σ Q := by
  intro G p l e s m args below meth c Z H locs ls hX hZ hP hL hS hl hc
  have ht := hX.2.2.2.2.2.1
  have hN' : z_R (N : Int) := ⟨by omega, by omega⟩
  refine z_size (fun hsz => ?_)
  have hlow := z_lower hP hX.2.2.2.2.2.2.2.2.2.2.1
  have hup := hX.2.2.2.2.2.2.2.2.2.2.2
  have hH : H.size = G.2.2.1 + σ.1.length := by omega
  have hn0 : ¬ Int32.ofInt (N : Int) < 0 := by rw [z_of0, z_lt hN' z_zero]; omega
  have hcl : (Int32.ofInt (N : Int)).toNatClampNeg = N := by rw [z_clamp hN']; omega
  have hdef : defaultValue (newarray.typeOf at0) = .int 0 := by rcases hkd with ⟨-, rfl⟩ | ⟨-, rfl⟩ | ⟨-, rfl⟩ <;> rfl
  refine va_newaK hX.1 hX.2.1 (ht _ hw) rfl hd rfl hn0 hcl (by rcases hkd with ⟨-, rfl⟩ | ⟨-, rfl⟩ | ⟨-, rfl⟩ <;> (simp only [newarray.typeOf, componentBytes]; omega)) (by omega) hcc.2 rfl fun H1 cA e1 z1 o1 hAr hNm => ?_
  have hcA : cA = G.2.1 kd := by
    have hK := hX.2.2.2.2.2.2.2.2.1.2
    rcases hkd with ⟨rfl, rfl⟩ | ⟨rfl, rfl⟩ | ⟨rfl, rfl⟩
    · exact z_cls1 hNm (hK 0 _ rfl).2
    · exact z_cls1 hNm (hK 1 _ rfl).2
    · exact z_cls1 hNm (hK 2 _ rfl).2
  subst hcA
  have hk : ∀ (k : Nat) (x : Nat × va_E), (z_ws G σ)[k]? = some x → H1[x.1]? = H[x.1]? := fun k x hx => o1 x.1 ((hP.1.1 k x hx).lt)
  have hP1 : va_P G.1 vwCl (z_ws G σ ++ [(G.2.2.1 + σ.1.length, z_cell G (fun _ => 0) (.inr (.inl (kd, N))))]) H1 := by
    refine (hP.1.1.kept hk).app (fun k x hx => ?_)
    have hz : k < 1 := (List.getElem?_eq_some_iff.mp hx).1
    rw [show k = 0 by omega] at hx
    cases hx
    show H1[G.2.2.1 + σ.1.length]? = _
    rw [← hH, e1, hdef]
    rfl
  have hS1 : va_S (fun q => G.2.2.1 ≤ q) s.heap H1 locs := ⟨Nat.le_trans hP.2.1 (by omega), fun x h1 h2 => (o1 x (Nat.lt_of_lt_of_le h1 hP.2.1)).trans (hP.2.2.1 x h1 h2), hP.2.2.2⟩
  have hP2 := z_Pnw hP (.inr (.inl (kd, N))) hlen hP1 hS1
  have hle : (z_nw σ (.inr (.inl (kd, N)))).1.length = σ.1.length + 1 := by simp [z_nw]
  have h9 := kk G p l e s m args below meth c Z H1 locs ls hX hZ hP2 hL (z_RvN (z_RvC hS).2) hl ⟨by rw [hle]; show nz.1 ≤ _; omega, by rw [hle]; exact hcc.1, hcc.2⟩
  rw [hle] at h9
  rw [show σ.1.length - nz.1 + 1 = σ.1.length + 1 - nz.1 by omega]
  rw [List.map_cons, show z_cv G (z_r σ.1.length) = .ref H.size by show Value.ref (z_ad G _) = _; rw [z_ad_lt hlen, hH]] at h9
  exact h9
theorem z_newq {idx N : Nat} (hlk : Cond.classLink M.1.cls idx "TimeGaps$Plan" ∈ z_tb) (hN : N * 4 ≤ 536870912) (hlen : σ.1.length < 1000)
    (hcc : σ.1.length + 1 ≤ nz.1 + M.2.2.2.2.cells ∧ nz.2 + N ≤ M.2.2.2.2.slots) (hd : decode M.2.1 pc = .ok (.anewarray idx, 3)) (kk : z_Sem M (nz.1, nz.2 + N) (pc + 3) L (z_r σ.1.length :: st) (z_nw σ (.inr (.inr (List.replicate N none)))) Q) : z_Sem M nz pc L (z_i (N : Int) :: st) σ Q := by
  intro G p l e s m args below meth c Z H locs ls hX hZ hP hL hS hl hc
  have ht := hX.2.2.2.2.2.1
  have hN' : z_R (N : Int) := ⟨by omega, by omega⟩
  refine z_size (fun hsz => ?_)
  have hlow := z_lower hP hX.2.2.2.2.2.2.2.2.2.2.1
  have hup := hX.2.2.2.2.2.2.2.2.2.2.2
  have hH : H.size = G.2.2.1 + σ.1.length := by omega
  have hn0 : ¬ Int32.ofInt (N : Int) < 0 := by rw [z_of0, z_lt hN' z_zero]; omega
  have hcl : (Int32.ofInt (N : Int)).toNatClampNeg = N := by rw [z_clamp hN']; omega
  refine W.anew hX.1 hX.2.1 hX.2.2.2.2.1 (ht _ hlk) hX.2.2.2.2.2.2.2.2.2.1.2.2.2.2.1.2.use rfl hd rfl hn0 (by rw [hcl]; exact hN) (by omega) (by rw [hcl]; exact hcc.2) fun cA kA comp f1 f2 f3 f4 => ?_
  rw [hcl]
  have hcA : cA = G.2.1 3 := by
    obtain ⟨kA', comp', -, -, -, g⟩ := (hX.2.2.2.2.2.2.2.2.1.2 3 _ rfl).2
    exact z_cls1 f1 g
  subst hcA
  generalize hH1 : H.push ({ cls := G.2.1 3, slots := Array.replicate N .null, vm := .none } : Cell) = H1
  have z1 : H1.size = H.size + 1 := by rw [← hH1, Array.size_push]
  have e1 : H1[H.size]? = some (arrV (G.2.1 3) N (fun _ => .null)) := by rw [← hH1, Array.getElem?_push_size, ← arrV_new]
  have o1 : ∀ q : Nat, q < H.size → H1[q]? = H[q]? := fun q hq => by rw [← hH1, Array.getElem?_push, if_neg (Nat.ne_of_lt hq)]
  have hk : ∀ (k : Nat) (x : Nat × va_E), (z_ws G σ)[k]? = some x → H1[x.1]? = H[x.1]? := fun k x hx => o1 x.1 ((hP.1.1 k x hx).lt)
  have hP1 : va_P G.1 vwCl (z_ws G σ ++ [(G.2.2.1 + σ.1.length, z_cell G (fun _ => 0) (.inr (.inr (List.replicate N none))))]) H1 := by
    refine (hP.1.1.kept hk).app (fun k x hx => ?_)
    have hz : k < 1 := (List.getElem?_eq_some_iff.mp hx).1
    rw [show k = 0 by omega] at hx
    cases hx
    show H1[G.2.2.1 + σ.1.length]? = some (vp_cell _ (_, .inr (.inr (.inr (.inr _)))))
    rw [← hH, e1, vp_cell_q, List.length_replicate]
    congr 2
    funext j
    have : (List.replicate N (none : Option Nat)).getD j none = none := by
      rw [List.getD_eq_getElem?_getD, List.getElem?_replicate]
      split <;> rfl
    rw [this]
    rfl
  have hS1 : va_S (fun q => G.2.2.1 ≤ q) s.heap H1 locs := ⟨Nat.le_trans hP.2.1 (by omega), fun x h1 h2 => (o1 x (Nat.lt_of_lt_of_le h1 hP.2.1)).trans (hP.2.2.1 x h1 h2), hP.2.2.2⟩
  have hP2 := z_Pnw hP (.inr (.inr (List.replicate N none))) hlen hP1 hS1
  have hle : (z_nw σ (.inr (.inr (List.replicate N none)))).1.length = σ.1.length + 1 := by simp [z_nw]
  have h9 := kk G p l e s m args below meth c Z H1 locs ls hX hZ hP2 hL (z_RvN (z_RvC hS).2) hl ⟨by rw [hle]; show nz.1 ≤ _; omega, by rw [hle]; exact hcc.1, hcc.2⟩
  rw [hle] at h9
  rw [show σ.1.length - nz.1 + 1 = σ.1.length + 1 - nz.1 by omega]
  rw [List.map_cons, show z_cv G (z_r σ.1.length) = .ref H.size by show Value.ref (z_ad G _) = _; rw [z_ad_lt hlen, hH]] at h9
  exact h9
theorem z_aast {a r : Nat} {rs : List (Option Nat)} {fl : List (Option (Option Nat))} {i : Int} (hd : decode M.2.1 pc = .ok (.aastore, 1)) (hs : σ.1[a]? = some (.inr (.inr rs))) (hv : σ.1[r]? = some (.inl (3, fl))) (hi : 0 ≤ i ∧ i < (rs.length : Int)) (kk : z_Sem M nz (pc + 1) L st (z_u σ a (.inr (.inr (rs.set i.toNat (some r)))) (σ.2 a)) Q) : z_Sem M nz pc L (z_r r :: z_i i :: z_r a :: st) σ Q := by
  intro G p l e s m args below meth c Z H locs ls hX hZ hP hL hS hl hc
  rw [List.map_cons, List.map_cons, List.map_cons, z_cvr hP hs, z_cvr hP hv]
  have hi' : z_R i := (z_RvC (z_RvC hS).2).1
  refine va_astq hX.1 hX.2.1 hX.2.2.2.2.2.2.2.2.1 hP.1.1 (z_D G σ) hP.2 a 3 r 3 (z_ws_get hs) rfl (z_ws_get hv) (show vwCl[3]? = some (RX3, TX3, 12) from rfl) (z_in hi' hi.1 hi.2) hd (fun H1 locs1 hP1 _ hS1 => ?_)
  rw [z_clamp hi'] at hP1
  have hee : va_up (fun j => (rs.getD j none).map (z_ad G)) i.toNat (some (G.2.2.1 + r)) = fun j => ((rs.set i.toNat (some r)).getD j none).map (z_ad G) := by
    funext j
    simp only [va_up, List.getD_eq_getElem?_getD]
    by_cases hj : j = i.toNat
    · subst hj
      rw [if_pos rfl, List.getElem?_set_self (by omega)]
      simp [z_ad_lt (z_lt1000 hP hv)]
    · rw [if_neg hj, List.getElem?_set_ne (Ne.symm hj)]
  rw [hee] at hP1
  have hP2 := z_Pset (c := .inr (.inr (rs.set i.toNat (some r)))) (f := σ.2 a) hP hs (fun j => hP.1.2.2.1 a j) (H1 := H1) (by
    have h9 : z_cell G (σ.2 a) (.inr (.inr (rs.set i.toNat (some r)))) = .inl (G.2.1 3, rs.length, .inr (.inr (.inr (.inr (fun j => ((rs.set i.toNat (some r)).getD j none).map (z_ad G)))))) := by simp [z_cell]
    rw [h9]; exact hP1) hS1
  have h9 := kk G p l e s m args below meth c Z H1 locs1 ls hX hZ hP2 hL (z_RvC (z_RvC (z_RvC hS).2).2).2 hl (by simpa [z_u] using hc)
  rw [show (z_u σ a (.inr (.inr (rs.set i.toNat (some r)))) (σ.2 a)).1.length = σ.1.length by simp [z_u]] at h9
  exact h9
theorem z_copy {a0 a n0 n1 idx : Nat} {sp dp n : Int} (hlk : Cond.methodLink M.1.cls idx arraycopyName ∈ z_tb) (hnat : Cond.native arraycopyName ∈ z_tb) (hstt : Cond.static arraycopyName ∈ z_tb) (hini : Cond.initialized "java/lang/System" ∈ z_tb) (hs0 : σ.1[a0]? = some (.inr (.inl (0, n0)))) (hs : σ.1[a]? = some (.inr (.inl (0, n1)))) (h1 : 0 ≤ sp ∧ 0 ≤ dp ∧ 0 ≤ n) (h2 : sp + n ≤ (n0 : Int) ∧ dp + n ≤ (n1 : Int))
    (hrm : 1 ≤ M.2.2.2.2.frames ∧ z_wds st + (nativeFrameWords "java/lang/System" "arraycopy" 5 + 11) ≤ M.2.2.2.2.locals) (hd : decode M.2.1 pc = .ok (.invokestatic idx, 3)) (kk : z_Sem M nz (pc + 3) L st (z_cp σ a0 sp a dp n) Q) : z_Sem M nz pc L (z_i n :: z_i dp :: z_r a :: z_i sp :: z_r a0 :: st) σ Q := by
  intro G p l e s m args below meth c Z H locs ls hX hZ hP hL hS hl hc
  have ht := hX.2.2.2.2.2.1
  simp only [List.map_cons]
  rw [z_cvr hP hs, z_cvr hP hs0]
  have hn' : z_R n := (z_RvC hS).1
  have hdp' : z_R dp := (z_RvC (z_RvC hS).2).1
  have hsp' : z_R sp := (z_RvC (z_RvC (z_RvC (z_RvC hS).2).2).2).1
  have g1 : ¬ Int32.ofInt sp < 0 := by rw [z_of0, z_lt hsp' z_zero]; omega
  have g2 : ¬ Int32.ofInt dp < 0 := by rw [z_of0, z_lt hdp' z_zero]; omega
  have g3 : ¬ Int32.ofInt n < 0 := by rw [z_of0, z_lt hn' z_zero]; omega
  refine va_copyi (ty := .int) hX.1 hX.2.1 (hX.2.2.2.1.trans hl.1.symm) hX.2.2.2.2.1 (ht _ hlk) (ht _ hnat) (ht _ hstt) (ht _ hini) hX.2.2.2.2.2.2.2.2.1 hP.1.1 (z_D G σ) hP.2 a0 a 0 0 (z_ws_get hs0) (z_ws_get hs) rfl rfl rfl g1 g2 g3 (by rw [z_clamp hsp', z_clamp hn']; omega) (by rw [z_clamp hdp', z_clamp hn']; omega) (fun i _ => rfl) hrm.1 (by rw [z_wds_cat]; exact hrm.2) hd (fun H1 locs1 hP1 _ hS1 => ?_)
  rw [z_clamp hsp', z_clamp hdp', z_clamp hn'] at hP1
  have hee : va_cpy (fun j : Nat => Int32.ofInt (σ.2 a0 (j : Int))) (fun j : Nat => Int32.ofInt (σ.2 a (j : Int))) sp.toNat dp.toNat n.toNat = fun j : Nat => Int32.ofInt ((fun j : Int => if dp ≤ j ∧ j < dp + n then σ.2 a0 (sp + (j - dp)) else σ.2 a j) (j : Int)) := by
    funext j
    simp only [va_cpy]
    by_cases hj : dp.toNat ≤ j ∧ j < dp.toNat + n.toNat
    · rw [if_pos hj, if_pos (by omega)]
      rw [show ((sp.toNat + (j - dp.toNat) : Nat) : Int) = sp + ((j : Int) - dp) by omega]
    · rw [if_neg hj, if_neg (by omega)]
  rw [hee] at hP1
  have hP2 := z_Pset (c := .inr (.inl (0, n1))) (f := fun j : Int => if dp ≤ j ∧ j < dp + n then σ.2 a0 (sp + (j - dp)) else σ.2 a j) hP hs (fun j => by split; exact hP.1.2.2.1 _ _; exact hP.1.2.2.1 _ _) (H1 := H1) hP1 hS1
  rw [z_cp_eq hs] at hP2
  exact kk G p l e s m args below meth c Z H1 locs1 ls hX hZ hP2 hL (fun q hq => hS q (by simp [hq])) hl hc
/-! floats -/
theorem z_i2f {x : Int} (hd : decode M.2.1 pc = .ok (.i2f, 1)) (k : z_Sem M nz (pc + 1) L (z_f (FP.i2f (Int32.ofInt x)) :: st) σ Q) : z_Sem M nz pc L (z_i x :: st) σ Q :=
  z_pure (fun _ _ _ _ _ _ _ _ _ _ _ _ _ ls hX _ _ _ hl kk => lv_i2f hX.1 hX.2.1 hd (kk ls hl)) (fun h _ => h) (fun _ h => z_RvF (z_RvC h).2) k
theorem z_i2d {x : Int} (hd : decode M.2.1 pc = .ok (.i2d, 1)) (k : z_Sem M nz (pc + 1) L (z_d (FP.i2d (Int32.ofInt x)) :: st) σ Q) : z_Sem M nz pc L (z_i x :: st) σ Q :=
  z_pure (fun _ _ _ _ _ _ _ _ _ _ _ _ _ ls hX _ _ _ hl kk => lv_i2d hX.1 hX.2.1 hd (kk ls hl)) (fun h _ => h) (fun _ h => z_RvD (z_RvC h).2) k
theorem z_f2d {x : UInt32} (hd : decode M.2.1 pc = .ok (.f2d, 1)) (hn : vf_n64 (FP.f2d x)) (k : z_Sem M nz (pc + 1) L (z_d (FP.f2d x) :: st) σ Q) : z_Sem M nz pc L (z_f x :: st) σ Q :=
  z_pure (fun _ _ _ _ _ _ _ _ _ _ _ _ _ ls hX _ _ _ hl kk => lv_f2d hX.1 hX.2.1 hd hn (kk ls hl)) (fun h _ => h) (fun _ h => z_RvD (z_RvC h).2) k
theorem z_fdiv {x y : UInt32} (hd : decode M.2.1 pc = .ok (.fdiv, 1)) (hn : vf_n32 (FP.fdiv x y)) (k : z_Sem M nz (pc + 1) L (z_f (FP.fdiv x y) :: st) σ Q) : z_Sem M nz pc L (z_f y :: z_f x :: st) σ Q :=
  z_pure (fun _ _ _ _ _ _ _ _ _ _ _ _ _ ls hX _ _ _ hl kk => lv_fdiv hX.1 hX.2.1 hd hn (kk ls hl)) (fun h _ => h) (fun _ h => z_RvF (z_RvC (z_RvC h).2).2) k
theorem z_ddiv {x y : UInt64} (hd : decode M.2.1 pc = .ok (.ddiv, 1)) (hn : vf_n64 (FP.ddiv x y)) (k : z_Sem M nz (pc + 1) L (z_d (FP.ddiv x y) :: st) σ Q) : z_Sem M nz pc L (z_d y :: z_d x :: st) σ Q :=
  z_pure (fun _ _ _ _ _ _ _ _ _ _ _ _ _ ls hX _ _ _ hl kk => lv_ddiv hX.1 hX.2.1 hd hn (kk ls hl)) (fun h _ => h) (fun _ h => z_RvD (z_RvC (z_RvC h).2).2) k
theorem z_fconst0 (hd : decode M.2.1 pc = .ok (.fconst 0, 1)) (k : z_Sem M nz (pc + 1) L (z_f FP.fconst0 :: st) σ Q) : z_Sem M nz pc L st σ Q :=
  z_pure (fun _ _ _ _ _ _ _ _ _ _ _ _ _ ls hX _ _ _ hl kk => lv_fconst0 hX.1 hX.2.1 hd (kk ls hl)) (fun h _ => h) (fun _ h => z_RvF h) k
theorem z_dconst0 (hd : decode M.2.1 pc = .ok (.dconst 0, 1)) (k : z_Sem M nz (pc + 1) L (z_d FP.dconst0 :: st) σ Q) : z_Sem M nz pc L st σ Q :=
  z_pure (fun _ _ _ _ _ _ _ _ _ _ _ _ _ ls hX _ _ _ hl kk => lv_dconst0 hX.1 hX.2.1 hd (kk ls hl)) (fun h _ => h) (fun _ h => z_RvD h) k
theorem z_dcmp {x y : UInt64} {op : CmpOp} {v : Int} (hd : decode M.2.1 pc = .ok (.dcmp op, 1)) (hv : Op.cmpValue (FP.dcmp x y) op = Int32.ofInt v) (hr : z_R v) (k : z_Sem M nz (pc + 1) L (z_i v :: st) σ Q) : z_Sem M nz pc L (z_d y :: z_d x :: st) σ Q :=
  z_pure (fun _ _ _ _ _ _ _ _ _ _ _ _ _ ls hX _ _ _ hl kk => lv_dcmp hX.1 hX.2.1 hd (by rw [hv]; exact kk ls hl)) (fun h _ => h) (fun _ h => z_RvI hr (z_RvC (z_RvC h).2).2) k
/-! String constants' insides -/
theorem z_strval {i : Nat} {fin : Unit} (hi : i < 23) (hown : M.1.cls = "java/lang/String") (hlk : Cond.fieldLink "java/lang/String" 9 "java/lang/String" "value" "[B" ∈ z_tb) (hd : decode M.2.1 pc = .ok (.getfield 9, 3)) (kk : z_Sem M nz (pc + 3) L (z_r (1101 + i) :: st) σ Q) : z_Sem M nz pc L (z_r (1001 + i) :: st) σ Q := by
  intro G p l e s m args below meth c Z H locs ls hX hZ hP hL hS hl hc
  have ht := hX.2.2.2.2.2.1
  have hO := hX.2.2.2.2.2.2.2.2.2.1
  have e1 : z_cv G (z_r (1001 + i)) = .ref (G.2.2.2.1 (1 + i)) := by show Value.ref (z_ad G _) = _; rw [show 1001 + i = 1000 + (1 + i) by omega, z_ad_old]
  have e2 : z_cv G (z_r (1101 + i)) = .ref (G.2.2.2.1 (101 + i)) := by show Value.ref (z_ad G _) = _; rw [show 1101 + i = 1000 + (101 + i) by omega, z_ad_old]
  have h9 := kk G p l e s m args below meth c Z H locs ls hX hZ hP hL (z_RvN (z_RvC hS).2) hl hc
  rw [List.map_cons, e2] at h9
  rw [List.map_cons, e1]
  exact vk_getf (ref := "java/lang/String") hX.1 hX.2.1 (hO.2.1 i hi).2.2.1 hP.2 (by rw [← hown]; exact hX.2.2.2.2.1) (ht _ hlk) (fun x hx => hx) hd h9
theorem z_strcod {i : Nat} (hi : i < 23) (hown : M.1.cls = "java/lang/String") (hlk : Cond.fieldLink "java/lang/String" 15 "java/lang/String" "coder" "B" ∈ z_tb) (hd : decode M.2.1 pc = .ok (.getfield 15, 3)) (kk : z_Sem M nz (pc + 3) L (z_i 0 :: st) σ Q) : z_Sem M nz pc L (z_r (1001 + i) :: st) σ Q := by
  intro G p l e s m args below meth c Z H locs ls hX hZ hP hL hS hl hc
  have ht := hX.2.2.2.2.2.1
  have hO := hX.2.2.2.2.2.2.2.2.2.1
  have e1 : z_cv G (z_r (1001 + i)) = .ref (G.2.2.2.1 (1 + i)) := by show Value.ref (z_ad G _) = _; rw [show 1001 + i = 1000 + (1 + i) by omega, z_ad_old]
  have h9 := kk G p l e s m args below meth c Z H locs ls hX hZ hP hL (z_RvI z_zero (z_RvC hS).2) hl hc
  rw [List.map_cons, e1]
  exact vk_getf (ref := "java/lang/String") hX.1 hX.2.1 (hO.2.1 i hi).2.1 hP.2 (by rw [← hown]; exact hX.2.2.2.2.1) (ht _ hlk) (fun x hx => hx) hd h9
theorem z_strlen {i : Nat} (hi : i < 23) (hd : decode M.2.1 pc = .ok (.arraylength, 1)) (hr : z_R (z_len.getD i 0 : Nat)) (kk : z_Sem M nz (pc + 1) L (z_i (z_len.getD i 0 : Nat) :: st) σ Q) : z_Sem M nz pc L (z_r (1101 + i) :: st) σ Q := by
  intro G p l e s m args below meth c Z H locs ls hX hZ hP hL hS hl hc
  have hO := hX.2.2.2.2.2.2.2.2.2.1
  have e2 : z_cv G (z_r (1101 + i)) = .ref (G.2.2.2.1 (101 + i)) := by show Value.ref (z_ad G _) = _; rw [show 1101 + i = 1000 + (101 + i) by omega, z_ad_old]
  have h9 := kk G p l e s m args below meth c Z H locs ls hX hZ hP hL (z_RvI hr (z_RvC hS).2) hl hc
  rw [List.map_cons, e2]
  exact va_tlen hX.1 hX.2.1 (hO.2.1 i hi).2.2.2 hP.2 (v := Int32.ofInt (z_len.getD i 0 : Nat)) rfl hd h9
theorem z_strald {i : Nat} {j v : Int} (hi : i < 23) (hd : decode M.2.1 pc = .ok (.baload, 1)) (hj : 0 ≤ j ∧ j < (z_len.getD i 0 : Nat)) (hv : (z_byt.getD i []).getD j.toNat 0 = Int32.ofInt v) (hr : z_R v) (kk : z_Sem M nz (pc + 1) L (z_i v :: st) σ Q) : z_Sem M nz pc L (z_i j :: z_r (1101 + i) :: st) σ Q := by
  intro G p l e s m args below meth c Z H locs ls hX hZ hP hL hS hl hc
  have hO := hX.2.2.2.2.2.2.2.2.2.1
  have e2 : z_cv G (z_r (1101 + i)) = .ref (G.2.2.2.1 (101 + i)) := by show Value.ref (z_ad G _) = _; rw [show 1101 + i = 1000 + (101 + i) by omega, z_ad_old]
  have hj' : z_R j := (z_RvC hS).1
  have h9 := kk G p l e s m args below meth c Z H locs ls hX hZ hP hL (z_RvI hr (z_RvC (z_RvC hS).2).2) hl hc
  rw [List.map_cons, List.map_cons, e2]
  refine va_tb hX.1 hX.2.1 (hO.2.1 i hi).2.2.2 hP.2 (z_in hj' hj.1 hj.2) (v := .int (Int32.ofInt v)) ?_ hd h9
  rw [z_clamp hj', hv]
theorem z_getCS (hown : M.1.cls = "java/lang/String") (hlk : Cond.fieldLink "java/lang/String" 38 "java/lang/String" "COMPACT_STRINGS" "Z" ∈ z_tb) (hd : decode M.2.1 pc = .ok (.getstatic 38, 3)) (kk : z_Sem M nz (pc + 3) L (z_i 1 :: st) σ Q) : z_Sem M nz pc L st σ Q := by
  intro G p l e s m args below meth c Z H locs ls hX hZ hP hL hS hl hc
  have ht := hX.2.2.2.2.2.1
  have hO := hX.2.2.2.2.2.2.2.2.2.1
  have h9 := kk G p l e s m args below meth c Z H locs ls hX hZ hP hL (z_RvI (by constructor <;> decide) hS) hl hc
  exact va_gets (ref := "java/lang/String") hX.1 hX.2.1 hO.2.2.2.1 hP.2 (by rw [← hown]; exact hX.2.2.2.2.1) (ht _ hlk) (fun x hx => hx) hd h9
theorem z_getSF (hown : M.1.cls = "java/lang/String") (hlk : Cond.fieldLink "java/lang/String" 1053 "jdk/internal/util/Preconditions" "SIOOBE_FORMATTER" "Ljava/util/function/BiFunction;" ∈ z_tb) (hd : decode M.2.1 pc = .ok (.getstatic 1053, 3)) (kk : ∀ v : z_V, z_c1 v → z_c2 v = false → z_Sem M nz (pc + 3) L (v :: st) σ Q) : z_Sem M nz pc L st σ Q := by
  intro G p l e s m args below meth c Z H locs ls hX hZ hP hL hS hl hc
  have ht := hX.2.2.2.2.2.1
  have hO := hX.2.2.2.2.2.2.2.2.2.1
  rcases hO.2.2.2.2.1.1 with h | ⟨t, h⟩
  · have h9 := kk (z_x none) True.intro rfl G p l e s m args below meth c Z H locs ls hX hZ hP hL (z_RvM (x := z_x none) True.intro hS) hl hc
    exact va_gets (ref := "jdk/internal/util/Preconditions") hX.1 hX.2.1 h hP.2 (by rw [← hown]; exact hX.2.2.2.2.1) (ht _ hlk) (fun x hx => hx) hd h9
  · have h9 := kk (z_x (some t)) True.intro rfl G p l e s m args below meth c Z H locs ls hX hZ hP hL (z_RvM (x := z_x (some t)) True.intro hS) hl hc
    exact va_gets (ref := "jdk/internal/util/Preconditions") hX.1 hX.2.1 h hP.2 (by rw [← hown]; exact hX.2.2.2.2.1) (ht _ hlk) (fun x hx => hx) hd h9
end ZRULES3
