/-! THE CLAIM OUT OF ONE WALK OF THE LAW'S BODY. Your part is whole_start (and what it stands on); all else here is the same for every law, but numbers. -/
def R_law : String := "TimeGapsLaw"
def lw_P (b : Addr) (xs : List Int32) (args : Array Value) (s : State) : Prop := args = #[.ref b] ∧ s.IntsAt b xs ∧ xs.length ≤ 260 ∧ (Jvm.Cond.and given_1 narrow_1).before args s = true
/-- what a walk over the start with the record d0 says of its end, said of the start itself -/
theorem lw_closed {s t : State} {o : Outcome} {d0 : Drawn} {L : List Loc} {k n : Nat} (hd0 : s.drawn.sameBut d0 lw_cs) (hv : ∃ v, o = .returned v) (hW : (s.setDrawn d0).WarmedH t.vm) (hs : (s.setDrawn d0).sameButNew ({ t with vm := s.vm } : State) L k n) : State.butDraws s t lw_cs (fun t1 => Framed s o t1 L k n) := by
  have h2 : t.drawn = d0 := congrArg State.drawn hs.1
  refine ⟨⟨hv, hW, State.sameButNew.setDrawn hs s.drawn⟩, ?_, by decide⟩
  rw [h2]
  exact hd0
def lw_Q (_ : Array Value) (s : State) (o : Outcome) (t : State) : Prop := o = .returned (some (.int 1)) ∧ State.butDraws s t lw_cs (fun t1 => Framed s o t1 [] 600000 7302250)
def lw_Z (below : List Frame) (a : Array Value) (s : State) : State → Prop := fun t => ∃ o, t.status = .running ∧ Ended t below o ∧ lw_Q a s o t
/-- the law's own end, with 1 on the stack, nothing written that was there before, its room as the claim has it; d0: the record of draws at this point (at the entry s.drawn: begin with 'refine W.base ?_' and 'have hd0 := Drawn.sameBut.refl s.drawn lw_cs') -/
theorem lw_ret {p : Program} {l : Launch} {e : Env} {s : State} {m : MethodId} {below : List Frame} {meth : Method} {c : Code} {b : Nat} {d0 : Drawn} (hd0 : s.drawn.sameBut d0 lw_cs) (hx : p.tables.exec = Jvm.exec) (hb : c.code = code) (hr : meth.sig.returnType = ret) (hlocks : meth.locks = false) {pc : Nat} {H : Heap} {ls : Array Slot} (hdg : decode code pc = .ok (.ireturn, 1)) : W p l e room_1 (s.setDrawn d0) m #[Value.ref b] below meth c H [] 600000 7302250 (lw_Z below #[Value.ref b] s) (F0 m pc ls [.int 1]) := by
  intro T hT X
  obtain ⟨fs, hret, hrun, hended, hW, hframe⟩ := X.leave (v := some (.int 1)) (hlocks := hlocks) (fun h => by rw [hr] at h; cases h)
  have hmeth' : T.vm.method? m = some meth := X.method'
  refine ⟨T.setFrames fs, ?_, .returned (some (.int 1)), hrun, hended, rfl, lw_closed hd0 ⟨_, rfl⟩ hW hframe⟩
  jvm_step X.here [X.here.top, hx, hb, hdg, hmeth', hr, ret, narrow_b1]
  (try refine ⟨rfl, ?_⟩); (try refine ⟨rfl, ?_⟩)
  first | (intro acts; rw [hret _ acts rfl rfl rfl]) | rw [hret _ _ rfl rfl rfl]
  exact Steps.refl _
/-- what holds at the law's entry: the machine, the code, the tables' words (any of lw_tbl by 'hts w (by decide +kernel)'), the script of L ints xs at the cell b, what the Statement gives of the start (any of its parts by flat_of_before) -/
def lw_At (p : Program) (s : State) (m : MethodId) (meth : Method) (c : Code) (b L : Nat) (xs : Nat → Int32) : Prop :=
  p.tables.exec = Jvm.exec ∧ c.code = code ∧ meth.sig.returnType = ret ∧ c.maxLocals = 9 ∧ s.vm.findClass R_law = some m.cls ∧ (∀ w ∈ lw_tbl, w.before #[Value.ref b] s = true) ∧ va_X b L xs s s.heap ∧ b < s.heap.size ∧ meth.locks = false ∧ (Jvm.Cond.and given_1 narrow_1).before #[Value.ref b] s = true
/-! THE START. -/
theorem z_lret {p : Program} {l : Launch} {e : Env} {s : State} {m : MethodId} {below : List Frame} {meth : Method} {c : Code} {b : Nat} {R : Room} {d0 : Drawn} (hd0 : s.drawn.sameBut d0 lw_cs) (hx : p.tables.exec = Jvm.exec) (hb : c.code = code) (hr : meth.sig.returnType = ret) (hlocks : meth.locks = false) {pc : Nat} {H : Heap} {ls : Array Slot} (hdg : decode code pc = .ok (.ireturn, 1)) : W p l e R (s.setDrawn d0) m #[Value.ref b] below meth c H [] 600000 7302250 (lw_Z below #[Value.ref b] s) (F0 m pc ls [.int 1]) := by
  intro T hT X
  obtain ⟨fs, hret, hrun, hended, hW, hframe⟩ := X.leave (v := some (.int 1)) (hlocks := hlocks) (fun h => by rw [hr] at h; cases h)
  have hmeth' : T.vm.method? m = some meth := X.method'
  refine ⟨T.setFrames fs, ?_, .returned (some (.int 1)), hrun, hended, rfl, lw_closed hd0 ⟨_, rfl⟩ hW hframe⟩
  jvm_step X.here [X.here.top, hx, hb, hdg, hmeth', hr, ret, narrow_b1]
  (try refine ⟨rfl, ?_⟩); (try refine ⟨rfl, ?_⟩)
  first | (intro acts; rw [hret _ acts rfl rfl rfl]) | rw [hret _ _ rfl rfl rfl]
  exact Steps.refl _
theorem whole_start {p : Program} {e : Env} {s : State} {m : MethodId} {below : List Frame} {meth : Method} {c : Code} (l : Launch) (hflags : l.flags = flags0) {b L : Nat} {xs : Nat → Int32} (hL : L ≤ 260) (C0 : lw_At p s m meth c b L xs) : W p l e room_1 s m #[Value.ref b] below meth c s.heap [] 0 0 (lw_Z below #[Value.ref b] s) (entryFrame m ([Value.ref b] : List Value).toArray 9) := by
  obtain ⟨hx, hb, hr, hml, hown, hts0, hXs, hbl, hlk, hgv⟩ := C0
  have hts : ∀ w ∈ z_tb, w.before #[Value.ref b] s = true := z_htbl hts0
  have hs : ∀ q ∈ z_gv, q.before #[Value.ref b] s = true := flat_of_before _ hgv
  have hA : ∀ a : Nat, a < s.heap.size → ¬ (fun q => s.heap.size ≤ q) a := fun a ha h => absurd ha (Nat.not_lt.mpr h)
  obtain ⟨ad, had⟩ := z_strs (A := fun q => s.heap.size ≤ q) hs hA
  obtain ⟨dt, du, hdt, hdu⟩ := z_dig (A := fun q => s.heap.size ≤ q) hs hts0 hA
  obtain ⟨D, hD⟩ := z_clss hts
  obtain ⟨cI, aI, rI⟩ := z_ary .int (hts _ z_awi) (fun C h => by cases h)
  obtain ⟨cZ, aZ, rZ⟩ := z_ary .boolean (hts _ z_awz) (fun C h => by cases h)
  obtain ⟨cB, aB, rB⟩ := z_ary .byte (hts _ z_awb) (fun C h => by cases h)
  have hao : (Cond.arrayOver (.object "TimeGaps$Plan")).before #[Value.ref b] s = true := hts0 _ z_pst_8
  obtain ⟨cP, aP, rP⟩ := z_aro "TimeGaps$Plan" hao
  have hG : ∃ G : z_G, G = (D, (fun k => match k with | 0 => cI | 1 => cZ | 2 => cB | _ => cP), (fun q => s.heap.size ≤ q), (fun q => if q = 1000 then b else if q < 1101 then (ad (q - 1001)).1 else if q < 1201 then (ad (q - 1101)).2 else if q = 1201 then dt else du), L, xs) := ⟨_, rfl⟩
  obtain ⟨G, eG⟩ := hG
  have g1 : G.1 = D := by rw [eG]
  have g3 : G.2.2.1 = (fun q => s.heap.size ≤ q) := by rw [eG]
  have g40 : z_ad G 1000 = b := by unfold z_ad; rw [eG]; rfl
  have g4a : ∀ i : Nat, i < 35 → z_ad G (1001 + i) = (ad i).1 := fun i hi => by
    unfold z_ad
    rw [eG]
    show (if 1001 + i = 1000 then b else if 1001 + i < 1101 then (ad (1001 + i - 1001)).1 else _) = _
    rw [if_neg (by omega), if_pos (by omega), show 1001 + i - 1001 = i by omega]
  have g4b : ∀ i : Nat, i < 35 → z_ad G (1101 + i) = (ad i).2 := fun i hi => by
    unfold z_ad
    rw [eG]
    show (if 1101 + i = 1000 then b else if 1101 + i < 1101 then _ else if 1101 + i < 1201 then (ad (1101 + i - 1101)).2 else _) = _
    rw [if_neg (by omega), if_neg (by omega), if_pos (by omega), show 1101 + i - 1101 = i by omega]
  have g4d : z_ad G 1201 = dt := by unfold z_ad; rw [eG]; rfl
  have g4u : z_ad G 1202 = du := by unfold z_ad; rw [eG]; rfl
  have g5 : G.2.2.2.2.1 = L := by rw [eG]
  have g6 : G.2.2.2.2.2 = xs := by rw [eG]
  have hK : va_K G.1 z_Cl (z_tys G) s := by
    refine ⟨by rw [g1]; exact hD, fun k q hq => ?_⟩
    have hk : k < 4 := (List.getElem?_eq_some_iff.mp hq).1
    rcases (show k = 0 ∨ k = 1 ∨ k = 2 ∨ k = 3 by omega) with rfl | rfl | rfl | rfl
    · obtain rfl : (G.2.1 0, FieldType.int) = q := Option.some.inj hq
      rw [eG]; exact ⟨aI, rI⟩
    · obtain rfl : (G.2.1 1, FieldType.boolean) = q := Option.some.inj hq
      rw [eG]; exact ⟨aZ, rZ⟩
    · obtain rfl : (G.2.1 2, FieldType.byte) = q := Option.some.inj hq
      rw [eG]; exact ⟨aB, rB⟩
    · obtain rfl : (G.2.1 3, FieldType.object "TimeGaps$Plan") = q := Option.some.inj hq
      rw [eG]; exact ⟨aP, rP⟩
  have hO : z_O G s s.heap := by
    unfold z_O
    rw [g40, g5, g6, g3, g4d, g4u]
    refine ⟨⟨hXs, hA b hbl⟩, fun i hi => ?_, fun i q hq => ?_, ?_, ⟨?_, va_AO.of hao⟩, fun w hw => ?_, hdt, hdu⟩
    · rw [g4a i hi, g4b i hi]
      exact (had i hi).2
    · have hi : i < 35 := (List.getElem?_eq_some_iff.mp hq).1
      rw [g4a i hi]
      have e : z_sl.getD i ("", 0, "") = q := by rw [List.getD_eq_getElem?_getD, hq]; rfl
      have h1 := hts0 _ (z_g6 i hi)
      have h2 := (had i hi).1
      unfold z_stm at h2
      rw [e] at h1 h2
      exact vk_R.of h1 h2
    · exact va_Zof (hts0 _ z_pst_1) (hts0 _ z_pst_2) (va_eqt (hs _ z_d5)) hA
    · exact va_Zqof (hts0 _ z_pst_3) (hts0 _ z_pst_4) (hs _ z_d6) hA
    · exact va_Nw.of (z_nstT hw) (hts0 w (List.mem_filter.mp hw).1)
  have hX : z_X G mLaw 0 p s m #[Value.ref b] meth c := ⟨hx, hb, hr, hml, hown, hts, hlk, fun h => absurd h (by decide), hK, hO, fun q hq => by rw [g3]; exact hq⟩
  have hZ : z_Z G mLaw 0 p l e s m #[Value.ref b] below meth c (lw_Z below #[Value.ref b] s) (fun v _ => v = some (z_i 1)) := by
    intro G' v σ' H' locs' z' pc ls' ins hag hQ hP hv hlen hz hrk hd
    subst hQ
    obtain ⟨rfl, -⟩ := hrk
    obtain ⟨f, rfl, -, -⟩ := hag
    refine W.widen (k := 600000) (n := 7302250) hz.1 hz.2 ?_
    refine va_forget (fun q hq => ?_) ?_
    · have h1 : G.2.2.1 q.base := hP.2.2.2 q hq
      rw [g3] at h1
      exact h1
    · exact W.base (z_lret (Drawn.sameBut.refl s.drawn lw_cs) hx hb hr hlk hd)
  have hw : ∃ w : z_Mm, w = fun a j => if a = 1000 then (if 0 ≤ j ∧ j < (L : Int) then (xs j.toNat).toInt else 0) else if a = 1001 then (L : Int) else 0 := ⟨_, rfl⟩
  obtain ⟨w, ew⟩ := hw
  have w1 : w 1001 0 = (L : Int) := by rw [ew]; rfl
  have hP0 : z_P0 G ([], w) s.heap := by
    refine ⟨(fun k q hq => by cases hq), Nat.zero_le _, fun a i => ?_, fun j hj => ?_, by rw [g5]; exact w1, fun i hi => absurd hi (Nat.not_lt_zero i), fun i j hi => absurd hi (Nat.not_lt_zero i)⟩
    · rw [ew]
      show z_R (if a = 1000 then (if 0 ≤ i ∧ i < (L : Int) then (xs i.toNat).toInt else 0) else if a = 1001 then (L : Int) else 0)
      split
      · split
        · exact z_Rto _
        · exact z_zero
      · split
        · constructor <;> omega
        · exact z_zero
    · rw [g5] at hj
      rw [g6, ew]
      show (if (1000 : Nat) = 1000 then (if 0 ≤ (j : Int) ∧ (j : Int) < (L : Int) then (xs (j : Int).toNat).toInt else 0) else if (1000 : Nat) = 1001 then (L : Int) else 0) = (xs j).toInt
      rw [if_pos rfl, if_pos ⟨by omega, by omega⟩, Int.toNat_natCast]
  have hP : z_P G ([], w) s s.heap [] := ⟨hP0, va_S.rf⟩
  have hl := lv_entry ([.ref b]) (n := 9) (Nat.le_of_ble_eq_true rfl)
  rw [lg_entry_eq]
  generalize (lg_sl ([.ref b]) ++ List.replicate (9 - (lg_sl ([.ref b])).length) Slot.unset).toArray = ls at hl ⊢
  have hl' : lv_has ls 9 (z_lo G [(0, z_r 1000)]) := by
    have e : z_lo G [(0, z_r 1000)] = [(0, .ref b)] := by
      show [(0, Value.ref (z_ad G 1000))] = _
      rw [g40]
    rw [e]
    exact hl
  have main := L_law (Q := fun v _ => v = some (z_i 1)) (w := w) z_parsesY z_setupsY z_newTG (fun _ => rfl) G p l e s m #[Value.ref b] below meth c (lw_Z below #[Value.ref b] s) s.heap [] ls hX hZ hP (fun q hq => by rw [List.mem_singleton.mp hq]; trivial) (fun q hq => by cases hq) hl' ⟨Nat.le_refl _, Nat.zero_le _, Nat.zero_le _⟩
  exact main
set_option maxHeartbeats 4000000 in
theorem lw_walk (l : Launch) (hflags : l.flags = flags0) (b : Addr) (xs : List Int32) : MetFree l x (headSpec (Jvm.Cond.code x code maxLocals ret :: tables_1) room_1) (lw_P b xs) (fun _ _ _ _ _ => True) lw_Q := by
  refine MetFree.of_bodyS (code := code) (maxLocals := maxLocals) (ret := ret) (by decide) ?_ ?_
  · intro args s m h hn
    obtain ⟨meth, c, h1, h2, h3, h4, h5, h6, -, -⟩ := Cond.code_spec hn (atoms_spec (ws := Jvm.Cond.code x code maxLocals ret :: tables_1) h _ List.mem_cons_self)
    exact ⟨meth, c, h1, h2, h3, h4, h5, h6⟩
  · intro p e s m args below meth c s₁ B hml0 hP _
    obtain ⟨rfl, hx, hbd, hgv⟩ := hP
    obtain ⟨scr, harrAt, hlist, hof, hsmall⟩ := hx
    obtain ⟨hcb, hkn, -, -⟩ := State.arrayAt?_spec harrAt
    have hown : s.vm.findClass R_law = some m.cls := findClass_of_methodNamed B.named
    have hts0 : ∀ c ∈ (Jvm.Cond.code x code maxLocals ret :: tables_1), c.before #[Value.ref b] s = true := atoms_spec (ws := Jvm.Cond.code x code maxLocals ret :: tables_1) B.pre
    have hts : ∀ w ∈ lw_tbl, w.before #[Value.ref b] s = true := k2_hts_sels lw_privs (fun w hw => hts0 w (List.mem_cons_of_mem _ hw)) lw_privs_ok
    have hml : c.maxLocals = 9 := B.maxLocals_eq (hts0 _ List.mem_cons_self)
    have X₀ : Stand p l e room_1 s m #[Value.ref b] below meth c s₁ [] 0 0 := Stand.of_body B
    have hh0 : s₁.heap = s.heap := by rw [B.state]; rfl
    have hsz : scr.slots.size = xs.length := by rw [← Array.length_toList, hlist, List.length_map]
    have hval : ∀ j : Nat, j < xs.length → scr.slots[j]? = some (.int (xs.getD j 0)) := fun j hj => by
      rw [← Array.getElem?_toList, hlist]
      simp [hj]
    have hbl : b < s.heap.size := (Array.getElem?_eq_some_iff.mp hcb).1
    have hX : va_X b xs.length (fun j => xs.getD j 0) s s.heap := ⟨scr, hcb, hof, hkn, hsz, hval⟩
    have K : W p l e room_1 s m #[Value.ref b] below meth c s₁.heap [] 0 0 (lw_Z below #[Value.ref b] s) (entryFrame m ([Value.ref b] : List Value).toArray 9) := by
      rw [hh0]
      exact whole_start l hflags hbd ⟨B.exec, B.bytes, B.returns, hml, hown, hts, hX, hbl, B.notSynchronized, hgv⟩
    obtain ⟨t, a1, o, b1, b2, b3⟩ := K s₁ rfl X₀
    exact ⟨t, o, a1, b1, b2, b3⟩
theorem lw_pre_spec {args : Array Value} {s : State} (h : (Jvm.Cond.and given_1 narrow_1).before args s = true) (hr : rest_1_c.before args s = true) : ∃ (b : Addr) (xs : List Int32), lw_P b xs args s := by
  have hs := flat_of_before _ h
  have hq := flat_of_before _ hr
  have hc : (Cond.count 1).before args s = true := hs _ (by decide +kernel)
  have harr : (Cond.arrayOf (.arg 0) .int).before args s = true := hs _ (by decide +kernel)
  have hle : (Cond.le (.length (.arg 0)) (.int 260)).before args s = true := hs _ (by decide +kernel)
  have hlen : (Cond.isInt (.length (.arg 0))).before args s = true := hq _ (by decide +kernel)
  have hall : (Cond.all (.arg 0) (.isInt (.elem (.arg 0) (.index 0)))).before args s = true := hq _ (by decide +kernel)
  obtain ⟨b, xs, hb, hx⟩ := State.ints_of_pre rfl harr hlen hall
  have hsm : xs.length < 2 ^ 31 := hx.choose_spec.2.2.2
  have hev : (Term.length (.arg 0)).eval args s none [] s = some (.int xs.length.toInt32) := hx.length_eval hb
  have hv := Cond.le_ints hev (show (Term.int 260).eval args s none [] s = some (.int 260) from rfl)
  have hd : xs.length.toInt32 ≤ 260 := by
    simpa [Cond.before, Cond.holds, hv] using hle
  have hN : xs.length ≤ 260 := (Int32.ofNat_le_ofNat hsm (by decide)).mp (show Int32.ofNat xs.length ≤ Int32.ofNat 260 from hd)
  exact ⟨b, xs, Cond.one_arg hc (show args[0]? = some (.ref b) from hb), hx, hN, h⟩
theorem lw_comes (l : Launch) (hflags : l.flags = flags0) : Comes l x (Jvm.Cond.code x code maxLocals ret :: tables_1) room_1 (fun tb e args s => Calls_1 tb e args s ∧ rest_1 tb e args s ∧ Pre_1 tb e args s)
    (fun _ _ args s o t => lw_Q args s o t) := by
  intro p e ha hc hk s m args below hf hfit hheap happ hpre
  obtain ⟨b, xs, hP⟩ := lw_pre_spec hpre.2.2 hpre.2.1
  obtain ⟨k, o, h1, h2, h3, hQ⟩ := lw_walk l hflags b xs p e ha hc hk s m args below hf ((Spec.applies_iff_loose hf).mp happ).1 hP trivial
  exact ⟨k, o, h1, h2, h3, hQ⟩
theorem lw_frame {s t : State} {o : Outcome} {args : Array Value} (h : State.butDraws s t lw_cs (fun t1 => Framed s o t1 [] 600000 7302250)) :
    State.butDraws s t [Jvm.Choice.named "NaN.bits"] (fun t1 => Framed s o t1 (fieldLocs frame_1_writes args s ++ arrayLocs frame_1_arrays args s ++ staticLocs frame_1_statics s) 600000 7302250) := h
theorem lw_limb (L : Cond) (hL : ∀ (args : Array Value) (s t : State), L.after args s (.returned (some (.int 1))) t = true) :
    ArmFor flags0 classFile x code maxLocals ret World_1 tables_1 room_1 Calls_1 rest_1 Pre_1
      (fun tb e a s o t => postC L tb e a s o t ∧ State.butDraws s t [Jvm.Choice.named "NaN.bits"] (fun t1 => Framed s o t1 (fieldLocs frame_1_writes a s ++ arrayLocs frame_1_arrays a s ++ staticLocs frame_1_statics s) 600000 7302250)) := by
  intro l hflags _ _ p e ha hc hk s m args below hf hfit hheap happ hpre
  obtain ⟨k, o, h1, h2, h3, rfl, hF⟩ := lw_comes l hflags p e ha hc hk s m args below hf hfit hheap happ hpre
  exact ⟨k, _, h1, h2, h3, hL args s _, lw_frame hF⟩
theorem i_vc : Claimed_1_1 ∧ Claimed_1_2 := ⟨lw_limb limb_1_1 (fun args s t => by simp [limb_1_1, Cond.after, Cond.holds, Cond.value]), lw_limb limb_1_2 (fun args s t => Cond.after_iff.mpr (by
  first | (rw [show limb_1_2 = Cond.eq .result (.int 1) from rfl, Cond.eq_ints (x := 1) (y := 1) rfl rfl]; simp; done) | (simp [limb_1_2, Cond.value, Term.eval]; done)))⟩
