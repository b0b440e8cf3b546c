/-! CONSTRUCTORS: the cells that they make, in their order. -/
def z_zf (w : z_Mm) (lo hi : Nat) : z_Mm := fun b => if lo ≤ b ∧ b < hi then fun _ => 0 else w b
theorem z_zf_0 (w : z_Mm) (m : Nat) : z_zf w m m = w := by
  funext b
  have : ¬ (m ≤ b ∧ b < m) := by omega
  simp [z_zf, this]
theorem z_zf_cat {w : z_Mm} {lo m hi : Nat} (h1 : lo ≤ m) (h2 : m ≤ hi) : z_zf (z_zf w lo m) m hi = z_zf w lo hi := by
  funext b
  simp only [z_zf]
  by_cases c : lo ≤ b ∧ b < hi
  · rw [if_pos c]
    by_cases d : m ≤ b ∧ b < hi
    · rw [if_pos d]
    · rw [if_neg d, if_pos (by omega)]
  · rw [if_neg c, if_neg (by omega), if_neg (by omega)]
theorem z_zf_W {w : z_Mm} {lo hi a : Nat} {i x : Int} (h : a < lo) : z_W (z_zf w lo hi) a i x = z_zf (z_W w a i x) lo hi := by
  funext b j
  simp only [z_zf, z_W]
  by_cases c : lo ≤ b ∧ b < hi
  · rw [if_pos c, if_pos c, if_neg (by omega)]
  · rw [if_neg c, if_neg c]; rfl
theorem z_nwE {S : List z_C} {w : z_Mm} {m : Nat} (hm : S.length = m) (c : z_C) : z_nw (S, w) c = (S ++ [c], z_zf w m (m + 1)) := by
  subst hm
  simp only [z_nw]
  congr 1
  funext b
  simp only [z_zf]
  by_cases h : b = S.length
  · rw [if_pos h, if_pos (by omega)]
  · rw [if_neg h, if_neg (by omega)]
theorem z_uE (S : List z_C) (w : z_Mm) (a : Nat) (c : z_C) : z_u (S, w) a c (w a) = (S.set a c, w) := by
  simp only [z_u]
  congr 1
  funext b
  by_cases h : b = a
  · rw [if_pos h, h]
  · rw [if_neg h]
theorem z_apset {pre l : List z_C} {n : Nat} {x y : z_C} (hn : pre.length = n) : (pre ++ x :: l).set n y = pre ++ y :: l := by
  subst hn
  rw [List.set_append_right _ _ (Nat.le_refl _), Nat.sub_self, List.set_cons_zero]
theorem z_apget {pre l : List z_C} {n : Nat} {x : z_C} (hn : pre.length = n) : (pre ++ x :: l)[n]? = some x := by
  subst hn
  simp
/-- a constructor over the last cell -/
def z_ctor (M' : z_M) (ci : Nat) (fl : List (Option (Option Nat))) (k : Nat) (f : Nat → List z_C) : Prop := ∀ (pre : List z_C) (m : Nat) (w : z_Mm) (Q : Option z_V → z_S → Prop), pre.length = m → m + k ≤ 1000 → z_cls0 (pre ++ [.inl (ci, fl)]) → (z_cls0 (pre ++ f m) → Q none (pre ++ f m, z_zf w (m + 1) (m + k))) → z_Sem M' (m + 1, 0) 0 [(0, z_r m)] [] (pre ++ [.inl (ci, fl)], w) Q
def z_rwc (M' : z_M) (ci : Nat) (C : String) (N : Nat) (fl : List (Option (Option Nat))) (k : Nat) (f : Nat → List z_C) : Prop :=
  z_ctor M' ci fl k f ∧ (∃ (T : u_T) (ty : Nat → FieldType), z_cls ci C T N ty ∧ (fl.length = N ∧ ∀ j, j < N → (fl[j]? = some none ∧ defaultValue (ty j) = .int 0) ∨ (fl[j]? = some (some none) ∧ defaultValue (ty j) = .null))) ∧ Cond.instantiable C N ∈ z_tb ∧ Cond.initialized C ∈ z_tb ∧ z_me M' 0 ∧ Cond.instanceMethod M'.1 ∈ z_tb ∧ M'.1.name = "<init>" ∧ M'.2.2.2.1 = none ∧ 1 ≤ M'.2.2.1 ∧ (1 ≤ N ∧ M'.2.2.2.2.cells ≤ M'.2.2.2.2.slots)
theorem z_cls_fl {S : List z_C} {ci N : Nat} {fl : List (Option (Option Nat))} {ty : Nat → FieldType} (hlo : z_cls0 S) (hfl : fl.length = N ∧ ∀ j, j < N → (fl[j]? = some none ∧ defaultValue (ty j) = .int 0) ∨ (fl[j]? = some (some none) ∧ defaultValue (ty j) = .null)) : z_cls0 (S ++ [.inl (ci, fl)]) := by
  unfold z_cls0
  rw [List.length_append]
  refine z_cl1_app hlo (fun c hc => ?_)
  rw [List.mem_singleton.mp hc]
  intro o ho a ha
  obtain ⟨j, hj⟩ := List.getElem?_of_mem ho
  have hjl := (List.getElem?_eq_some_iff.mp hj).1
  rcases hfl.2 j (by omega) with ⟨q, -⟩ | ⟨q, -⟩ <;> (rw [hj, ha] at q; cases q)
theorem z_cls_set {pre l : List z_C} {ci k m : Nat} {fl : List (Option (Option Nat))} (h : z_cls0 (pre ++ .inl (ci, fl) :: l)) (hm : m < (pre ++ (.inl (ci, fl) : z_C) :: l).length) : z_cls0 (pre ++ .inl (ci, fl.set k (some (some m))) :: l) := by
  have hl : (pre ++ (.inl (ci, fl.set k (some (some m))) : z_C) :: l).length = (pre ++ (.inl (ci, fl) : z_C) :: l).length := by simp
  unfold z_cls0
  rw [hl]
  intro c hc
  rcases List.mem_append.mp hc with h1 | h1
  · exact h c (List.mem_append_left _ h1)
  · rcases List.mem_cons.mp h1 with rfl | h1
    · intro o ho a ha
      rcases List.mem_or_eq_of_mem_set ho with h2 | h2
      · exact h (.inl (ci, fl)) (by simp) o h2 a ha
      · rw [h2] at ha
        have : m = a := by injection ha with ha; injection ha
        exact Or.inl (by rw [← this]; exact hm)
    · exact h c (List.mem_append_right _ (List.mem_cons_of_mem _ h1))
theorem z_mk {M M' : z_M} {nz : Nat × Nat} {pc : Nat} {L : List (Nat × z_V)} {st : List z_V} {S : List z_C} {w : z_Mm} {Q : Option z_V → z_S → Prop} {m ci N k idx jdx : Nat} {C : String} {fl : List (Option (Option Nat))} {f : Nat → List z_C} (hr : z_rwc M' ci C N fl k f) (hlk : Cond.classLink M.1.cls idx C ∈ z_tb) (hl2 : Cond.methodLink M.1.cls jdx M'.1 ∈ z_tb ∨ ∃ host : String, Cond.methodLinkNest M.1.cls jdx M'.1 host ∈ z_tn) (hrm : z_rm M M')
    (d1 : decode M.2.1 pc = .ok (.new idx, 3)) (d2 : decode M.2.1 (pc + 3) = .ok (.dup, 1)) (d3 : decode M.2.1 (pc + 4) = .ok (.invokespecial jdx, 3)) (hm : S.length = m) (hlt : m + k ≤ 1000) (hk : 1 ≤ k) (hw : z_wds (z_r m :: st) ≤ 8) (hlo : z_cls0 S) (hLv : z_lv m L) (hSv : z_sv1 m st) (hcc : nz.2 + N + M'.2.2.2.2.slots ≤ M.2.2.2.2.cells ∧ nz.2 + N + M'.2.2.2.2.slots ≤ M.2.2.2.2.slots)
    (kk : z_cls0 (S ++ f m) → z_Sem M (nz.1, nz.2 + N + M'.2.2.2.2.slots) (pc + 7) L (z_r m :: st) (S ++ f m, z_zf w m (m + k)) Q) : z_Sem M nz pc L st (S, w) Q := by
  obtain ⟨hc, ⟨T, ty, hcl, hfl⟩, hins, hini, hme, hin, hnm, hret, h2, hN, hcs⟩ := hr
  have hlo1 : z_cls0 (S ++ [.inl (ci, fl)]) := z_cls_fl hlo hfl
  have hm1 : (S ++ [(Sum.inl (ci, fl) : z_C)]).length = m + 1 := by simp [hm]
  refine z_new hcl hlk hins hini hfl (by show S.length < 1000; omega) hlo (by show z_lv S.length L; rw [hm]; exact hLv) (by show z_sv1 S.length st; rw [hm]; exact hSv) hN ⟨by omega, by omega⟩ d1 ?_
  rw [z_nwE hm]
  rw [show ((S, w) : z_S).1.length = m from hm]
  refine z_dup d2 rfl ?_
  refine z_callA (M' := M') (vs := [z_r m]) (rest := z_r m :: st) (z_invI (As := []) hme hin hnm hret hl2 hrm d3 rfl) hme.2.2.2.2 (fun _ _ _ _ _ _ _ _ _ _ _ => True.intro) rfl (z_ar z_a0) h2 hw (z_lv_le hLv (by show m ≤ (S ++ [(Sum.inl (ci, fl) : z_C)]).length; omega)) (fun q hq => by
    rcases List.mem_cons.mp hq with rfl | h
    · exact Or.inl (by show m < (S ++ [(Sum.inl (ci, fl) : z_C)]).length; omega)
    · exact z_vv_le (hSv q h) (by show m ≤ (S ++ [(Sum.inl (ci, fl) : z_C)]).length; omega)) hcs (by omega) ⟨by show nz.2 + N + _ ≤ _; omega, by show nz.2 + N + _ ≤ _; omega⟩ ?_
  rw [show ((S ++ [.inl (ci, fl)], z_zf w m (m + 1)) : z_S).1.length = m + 1 from hm1]
  refine hc S m _ _ hm hlt hlo1 (fun hlo2 => ?_)
  rw [z_zf_cat (by omega) (by omega)]
  exact kk hlo2
theorem z_sA {M : z_M} {nz : Nat × Nat} {pc pc1 : Nat} {pre : List z_C} {w0 : z_Mm} {n m ci idx k kd N : Nat} {fl : List (Option (Option Nat))} {l : List z_C} {at0 : ArrayType} {t : FieldType} {L : List (Nat × z_V)} {Q : Option z_V → z_S → Prop} (hn : pre.length = n) (hm : n + 1 + l.length = m) (hL : L[0]? = some (0, z_r n)) (d0 : decode M.2.1 pc = .ok (.aload_n 0, 1))
    (hp : ∀ (st : List z_V) (σ : z_S), z_Sem M nz pc1 L (z_i (N : Int) :: st) σ Q → z_Sem M nz (pc + 1) L st σ Q) (hkd : (kd = 0 ∧ at0 = .int) ∨ (kd = 1 ∧ at0 = .boolean) ∨ (kd = 2 ∧ at0 = .byte)) (hw : Cond.arrayClass (newarray.typeOf at0) ∈ z_tb) (hN : 1 ≤ N ∧ N * 4 ≤ 536870912) (d1 : decode M.2.1 pc1 = .ok (.newarray at0, 2)) (hf : z_fo M.1.cls idx ci k t true) (hin : M.1.name = "<init>") (ht : ∀ b, narrow t (.ref b) = .ref b ∧ fits t (.ref b) = true)
    (d2 : decode M.2.1 (pc1 + 2) = .ok (.putfield idx, 3)) (hk : k < fl.length) (hlt : m < 1000) (hcc : nz.2 + N ≤ M.2.2.2.2.cells ∧ nz.2 + N ≤ M.2.2.2.2.slots) (hLv : z_lv (n + 1) L) (hlo : z_cls0 (pre ++ .inl (ci, fl) :: l)) (kk : z_cls0 (pre ++ .inl (ci, fl.set k (some (some m))) :: (l ++ [.inr (.inl (kd, N))])) → z_Sem M (nz.1, nz.2 + N) (pc1 + 5) L [] (pre ++ .inl (ci, fl.set k (some (some m))) :: (l ++ [.inr (.inl (kd, N))]), z_zf w0 (n + 1) (m + 1)) Q) : z_Sem M nz pc L [] (pre ++ .inl (ci, fl) :: l, z_zf w0 (n + 1) m) Q := by
  have e : (pre ++ .inl (ci, fl) :: l).length = m := by simp; omega
  have hlo1 := z_cls0_row (kd := kd) (m := N) hlo
  rw [List.append_assoc, List.cons_append] at hlo1
  refine z_aload_n 0 d0 rfl hL ?_
  refine hp _ _ ?_
  refine z_newa hkd hw hN.2 (by show (pre ++ .inl (ci, fl) :: l).length < 1000; omega) hlo (z_lv_le hLv (by show n + 1 ≤ (pre ++ .inl (ci, fl) :: l).length; omega)) (fun q hq => by
    rw [List.mem_singleton.mp hq]
    exact Or.inl (by show n < (pre ++ .inl (ci, fl) :: l).length; omega)) hN.1 hcc d1 ?_
  rw [z_nwE e, show ((pre ++ .inl (ci, fl) :: l, z_zf w0 (n + 1) m) : z_S).1.length = m from e, z_zf_cat (by omega) (by omega), List.append_assoc, List.cons_append]
  refine z_putR hf (fun _ => hin) ht d2 (z_apget hn) hk ?_
  rw [z_uE, z_apset hn]
  exact kk (z_cls_set hlo1 (by simp; omega))
theorem z_sB {M M' : z_M} {nz : Nat × Nat} {pc : Nat} {pre : List z_C} {w0 : z_Mm} {n m ci cj idx jdx pdx k N kn : Nat} {C : String} {fl fl' : List (Option (Option Nat))} {l : List z_C} {f : Nat → List z_C} {t : FieldType} {L : List (Nat × z_V)} {Q : Option z_V → z_S → Prop} (hr : z_rwc M' cj C N fl' kn f) (hlk : Cond.classLink M.1.cls idx C ∈ z_tb) (hl2 : Cond.methodLink M.1.cls jdx M'.1 ∈ z_tb ∨ ∃ host : String, Cond.methodLinkNest M.1.cls jdx M'.1 host ∈ z_tn) (hrm : z_rm M M') (hn : pre.length = n) (hm : n + 1 + l.length = m) (hL : L[0]? = some (0, z_r n)) (d0 : decode M.2.1 pc = .ok (.aload_n 0, 1))
    (d1 : decode M.2.1 (pc + 1) = .ok (.new idx, 3)) (d2 : decode M.2.1 (pc + 4) = .ok (.dup, 1)) (d3 : decode M.2.1 (pc + 5) = .ok (.invokespecial jdx, 3)) (hf : z_fo M.1.cls pdx ci k t true) (hin : M.1.name = "<init>") (ht : ∀ b, narrow t (.ref b) = .ref b ∧ fits t (.ref b) = true)
    (d4 : decode M.2.1 (pc + 8) = .ok (.putfield pdx, 3)) (hk : k < fl.length) (hkn : 1 ≤ kn) (hlt : m + kn ≤ 1000) (hfl : (f m).length = kn) (hcc : nz.2 + N + M'.2.2.2.2.slots ≤ M.2.2.2.2.cells ∧ nz.2 + N + M'.2.2.2.2.slots ≤ M.2.2.2.2.slots) (hLv : z_lv (n + 1) L) (hlo : z_cls0 (pre ++ .inl (ci, fl) :: l)) (kk : z_cls0 (pre ++ .inl (ci, fl.set k (some (some m))) :: (l ++ f m)) → z_Sem M (nz.1, nz.2 + N + M'.2.2.2.2.slots) (pc + 11) L [] (pre ++ .inl (ci, fl.set k (some (some m))) :: (l ++ f m), z_zf w0 (n + 1) (m + kn)) Q) : z_Sem M nz pc L [] (pre ++ .inl (ci, fl) :: l, z_zf w0 (n + 1) m) Q := by
  have e : (pre ++ .inl (ci, fl) :: l).length = m := by simp; omega
  refine z_aload_n 0 d0 rfl hL ?_
  refine z_mk hr hlk hl2 hrm d1 d2 d3 e hlt hkn (z_lek rfl) hlo (z_lv_le hLv (by omega)) (fun q hq => by
    rw [List.mem_singleton.mp hq]
    exact Or.inl (by omega)) hcc (fun hlo1 => ?_)
  rw [List.append_assoc, List.cons_append] at hlo1
  rw [z_zf_cat (by omega) (by omega), List.append_assoc, List.cons_append]
  refine z_putR hf (fun _ => hin) ht d4 (z_apget hn) hk ?_
  rw [z_uE, z_apset hn]
  exact kk (z_cls_set hlo1 (by simp; omega))
theorem z_hta : ∀ b, narrow (.array .int) (.ref b) = .ref b ∧ fits (.array .int) (.ref b) = true := fun _ => ⟨rfl, rfl⟩
theorem z_htb : ∀ b, narrow (.array .byte) (.ref b) = .ref b ∧ fits (.array .byte) (.ref b) = true := fun _ => ⟨rfl, rfl⟩
theorem z_htz : ∀ b, narrow (.array .boolean) (.ref b) = .ref b ∧ fits (.array .boolean) (.ref b) = true := fun _ => ⟨rfl, rfl⟩
theorem z_hto {C : String} : ∀ b, narrow (.object C) (.ref b) = .ref b ∧ fits (.object C) (.ref b) = true := fun _ => ⟨rfl, rfl⟩
theorem z_hp1 {M : z_M} {nz : Nat × Nat} {pc : Nat} {L : List (Nat × z_V)} {Q : Option z_V → z_S → Prop} {n : Int} (hd : decode M.2.1 pc = .ok (.iconst n, 1)) (hn : z_R n) : ∀ (st : List z_V) (σ : z_S), z_Sem M nz (pc + 1) L (z_i n :: st) σ Q → z_Sem M nz pc L st σ Q := fun _ _ h => z_iconst hd hn h
theorem z_hp2 {M : z_M} {nz : Nat × Nat} {pc : Nat} {L : List (Nat × z_V)} {Q : Option z_V → z_S → Prop} {n : Int} (hd : decode M.2.1 pc = .ok (.bipush n, 2)) (hv : (Int8.ofInt n).toInt32 = Int32.ofInt n) (hn : z_R n) : ∀ (st : List z_V) (σ : z_S), z_Sem M nz (pc + 2) L (z_i n :: st) σ Q → z_Sem M nz pc L st σ Q := fun _ _ h => z_bipush hd hv hn h
theorem z_hp3 {M : z_M} {nz : Nat × Nat} {pc : Nat} {L : List (Nat × z_V)} {Q : Option z_V → z_S → Prop} {n : Int} (hd : decode M.2.1 pc = .ok (.sipush n, 3)) (hv : (Int16.ofInt n).toInt32 = Int32.ofInt n) (hn : z_R n) : ∀ (st : List z_V) (σ : z_S), z_Sem M nz (pc + 3) L (z_i n :: st) σ Q → z_Sem M nz pc L st σ Q := fun _ _ h => z_sipush hd hv hn h
def z_lgs (n : Nat) : List z_C := .inl (1, [some (some (n + 1)), none, none]) :: ([] ++ [.inr (.inl (0, 120))])
theorem z_lgs_len (n : Nat) : (z_lgs n).length = 2 := by simp only [z_lgs, List.length_append, List.length_cons, List.length_nil]
theorem z_ctorX1 : z_ctor mX1_init 1 [some none, none, none] 2 z_lgs := by
  intro pre n w Q hn hlt hlo h
  have hLv : z_lv (n + 1) [(0, z_r n)] := z_lv1 (by omega)
  refine z_aload_n 0 dX1_init_0 rfl rfl ?_
  refine z_objInit zORX1_3 z_oin z_oco ⟨Nat.le_of_ble_eq_true rfl, Nat.le_of_ble_eq_true rfl⟩ dX1_init_1 ?_
  rw [← z_zf_0 w (n + 1)]
  refine z_sA (N := 120) (kd := 0) (k := 0) hn (m := n + 1 + 0) (by simp only [List.length_append, List.length_cons, List.length_nil, List.length_nil]) rfl dX1_init_4 (z_hp2 (n := 120) dX1_init_5 rfl (by constructor <;> decide)) (Or.inl ⟨rfl, rfl⟩) z_awi ⟨by decide, by decide⟩ dX1_init_7 zoRX1_11 rfl z_hta dX1_init_9 (Nat.le_of_ble_eq_true rfl) (by omega) ⟨by show (120 : Nat) ≤ (120 : Nat); decide, by show (120 : Nat) ≤ (120 : Nat); decide⟩ hLv hlo (fun hlo => ?_)
  exact z_ret (v := none) dX1_init_12 ⟨rfl, rfl⟩ rfl (h hlo)
theorem z_rwcX1 : z_rwc mX1_init 1 RX1 3 [some none, none, none] 2 z_lgs := ⟨z_ctorX1, ⟨TX1, tyX1, z_k1, rfl, by decide +kernel⟩, ziRX1, zIRX1, zmX1_init, znX1_init, rfl, rfl, z_lek rfl, z_lek rfl, z_lek rfl⟩
def z_nts (n : Nat) : List z_C := .inl (2, [some (some (n + 1)), some (some (n + 2)), some (some (n + 3)), some (some (n + 4)), some (some (n + 5)), none, none]) :: ((((([] ++ [.inr (.inl (0, 60))]) ++ [.inr (.inl (0, 60))]) ++ [.inr (.inl (0, 60))]) ++ [.inr (.inl (0, 60))]) ++ [.inr (.inl (0, 100))])
theorem z_nts_len (n : Nat) : (z_nts n).length = 6 := by simp only [z_nts, List.length_append, List.length_cons, List.length_nil, z_lgs_len]
theorem z_ctorX2 : z_ctor mX2_init 2 [some none, some none, some none, some none, some none, none, none] 6 z_nts := by
  intro pre n w Q hn hlt hlo h
  have hLv : z_lv (n + 1) [(0, z_r n)] := z_lv1 (by omega)
  refine z_aload_n 0 dX2_init_0 rfl rfl ?_
  refine z_objInit zORX2_3 z_oin z_oco ⟨Nat.le_of_ble_eq_true rfl, Nat.le_of_ble_eq_true rfl⟩ dX2_init_1 ?_
  rw [← z_zf_0 w (n + 1)]
  refine z_sA (N := 60) (kd := 0) (k := 0) hn (m := n + 1 + 0) (by simp only [List.length_append, List.length_cons, List.length_nil, z_lgs_len]) rfl dX2_init_4 (z_hp2 (n := 60) dX2_init_5 rfl (by constructor <;> decide)) (Or.inl ⟨rfl, rfl⟩) z_awi ⟨by decide, by decide⟩ dX2_init_7 zoRX2_9 rfl z_hta dX2_init_9 (Nat.le_of_ble_eq_true rfl) (by omega) ⟨by show (60 : Nat) ≤ (340 : Nat); decide, by show (60 : Nat) ≤ (340 : Nat); decide⟩ hLv hlo (fun hlo => ?_)
  refine z_sA (N := 60) (kd := 0) (k := 1) hn (m := n + 1 + 1) (by simp only [List.length_append, List.length_cons, List.length_nil, z_lgs_len]) rfl dX2_init_12 (z_hp2 (n := 60) dX2_init_13 rfl (by constructor <;> decide)) (Or.inl ⟨rfl, rfl⟩) z_awi ⟨by decide, by decide⟩ dX2_init_15 zoRX2_15 rfl z_hta dX2_init_17 (Nat.le_of_ble_eq_true rfl) (by omega) ⟨by show (120 : Nat) ≤ (340 : Nat); decide, by show (120 : Nat) ≤ (340 : Nat); decide⟩ hLv hlo (fun hlo => ?_)
  refine z_sA (N := 60) (kd := 0) (k := 2) hn (m := n + 1 + 2) (by simp only [List.length_append, List.length_cons, List.length_nil, z_lgs_len]) rfl dX2_init_20 (z_hp2 (n := 60) dX2_init_21 rfl (by constructor <;> decide)) (Or.inl ⟨rfl, rfl⟩) z_awi ⟨by decide, by decide⟩ dX2_init_23 zoRX2_18 rfl z_hta dX2_init_25 (Nat.le_of_ble_eq_true rfl) (by omega) ⟨by show (180 : Nat) ≤ (340 : Nat); decide, by show (180 : Nat) ≤ (340 : Nat); decide⟩ hLv hlo (fun hlo => ?_)
  refine z_sA (N := 60) (kd := 0) (k := 3) hn (m := n + 1 + 3) (by simp only [List.length_append, List.length_cons, List.length_nil, z_lgs_len]) rfl dX2_init_28 (z_hp2 (n := 60) dX2_init_29 rfl (by constructor <;> decide)) (Or.inl ⟨rfl, rfl⟩) z_awi ⟨by decide, by decide⟩ dX2_init_31 zoRX2_21 rfl z_hta dX2_init_33 (Nat.le_of_ble_eq_true rfl) (by omega) ⟨by show (240 : Nat) ≤ (340 : Nat); decide, by show (240 : Nat) ≤ (340 : Nat); decide⟩ hLv hlo (fun hlo => ?_)
  refine z_sA (N := 100) (kd := 0) (k := 4) hn (m := n + 1 + 4) (by simp only [List.length_append, List.length_cons, List.length_nil, z_lgs_len]) rfl dX2_init_36 (z_hp2 (n := 100) dX2_init_37 rfl (by constructor <;> decide)) (Or.inl ⟨rfl, rfl⟩) z_awi ⟨by decide, by decide⟩ dX2_init_39 zoRX2_24 rfl z_hta dX2_init_41 (Nat.le_of_ble_eq_true rfl) (by omega) ⟨by show (340 : Nat) ≤ (340 : Nat); decide, by show (340 : Nat) ≤ (340 : Nat); decide⟩ hLv hlo (fun hlo => ?_)
  exact z_ret (v := none) dX2_init_44 ⟨rfl, rfl⟩ rfl (h hlo)
theorem z_rwcX2 : z_rwc mX2_init 2 RX2 7 [some none, some none, some none, some none, some none, none, none] 6 z_nts := ⟨z_ctorX2, ⟨TX2, tyX2, z_k2, rfl, by decide +kernel⟩, ziRX2, zIRX2, zmX2_init, znX2_init, rfl, rfl, z_lek rfl, z_lek rfl, z_lek rfl⟩
def z_tps (n : Nat) : List z_C := .inl (6, [some (some (n + 1)), none]) :: ([] ++ [.inr (.inl (0, 900))])
theorem z_tps_len (n : Nat) : (z_tps n).length = 2 := by simp only [z_tps, List.length_append, List.length_cons, List.length_nil, z_lgs_len, z_nts_len]
theorem z_ctorX6 : z_ctor mX6_init 6 [some none, none] 2 z_tps := by
  intro pre n w Q hn hlt hlo h
  have hLv : z_lv (n + 1) [(0, z_r n)] := z_lv1 (by omega)
  refine z_aload_n 0 dX6_init_0 rfl rfl ?_
  refine z_objInit zORX6_3 z_oin z_oco ⟨Nat.le_of_ble_eq_true rfl, Nat.le_of_ble_eq_true rfl⟩ dX6_init_1 ?_
  rw [← z_zf_0 w (n + 1)]
  refine z_sA (N := 900) (kd := 0) (k := 0) hn (m := n + 1 + 0) (by simp only [List.length_append, List.length_cons, List.length_nil, z_lgs_len, z_nts_len]) rfl dX6_init_4 (z_hp3 (n := 900) dX6_init_5 rfl (by constructor <;> decide)) (Or.inl ⟨rfl, rfl⟩) z_awi ⟨by decide, by decide⟩ dX6_init_8 zoRX6_9 rfl z_hta dX6_init_10 (Nat.le_of_ble_eq_true rfl) (by omega) ⟨by show (900 : Nat) ≤ (900 : Nat); decide, by show (900 : Nat) ≤ (900 : Nat); decide⟩ hLv hlo (fun hlo => ?_)
  exact z_ret (v := none) dX6_init_13 ⟨rfl, rfl⟩ rfl (h hlo)
theorem z_rwcX6 : z_rwc mX6_init 6 RX6 2 [some none, none] 2 z_tps := ⟨z_ctorX6, ⟨TX6, tyX6, z_k6, rfl, by decide +kernel⟩, ziRX6, zIRX6, zmX6_init, znX6_init, rfl, rfl, z_lek rfl, z_lek rfl, z_lek rfl⟩
def z_txs (n : Nat) : List z_C := .inl (7, [some (some (n + 1)), none]) :: ([] ++ [.inr (.inl (0, 1024))])
theorem z_txs_len (n : Nat) : (z_txs n).length = 2 := by simp only [z_txs, List.length_append, List.length_cons, List.length_nil, z_lgs_len, z_nts_len, z_tps_len]
theorem z_ctorX7 : z_ctor mX7_init 7 [some none, none] 2 z_txs := by
  intro pre n w Q hn hlt hlo h
  have hLv : z_lv (n + 1) [(0, z_r n)] := z_lv1 (by omega)
  refine z_aload_n 0 dX7_init_0 rfl rfl ?_
  refine z_objInit zORX7_3 z_oin z_oco ⟨Nat.le_of_ble_eq_true rfl, Nat.le_of_ble_eq_true rfl⟩ dX7_init_1 ?_
  rw [← z_zf_0 w (n + 1)]
  refine z_sA (N := 1024) (kd := 0) (k := 0) hn (m := n + 1 + 0) (by simp only [List.length_append, List.length_cons, List.length_nil, z_lgs_len, z_nts_len, z_tps_len]) rfl dX7_init_4 (z_hp3 (n := 1024) dX7_init_5 rfl (by constructor <;> decide)) (Or.inl ⟨rfl, rfl⟩) z_awi ⟨by decide, by decide⟩ dX7_init_8 zoRX7_9 rfl z_hta dX7_init_10 (Nat.le_of_ble_eq_true rfl) (by omega) ⟨by show (1024 : Nat) ≤ (1024 : Nat); decide, by show (1024 : Nat) ≤ (1024 : Nat); decide⟩ hLv hlo (fun hlo => ?_)
  exact z_ret (v := none) dX7_init_13 ⟨rfl, rfl⟩ rfl (h hlo)
theorem z_rwcX7 : z_rwc mX7_init 7 RX7 2 [some none, none] 2 z_txs := ⟨z_ctorX7, ⟨TX7, tyX7, z_k7, rfl, by decide +kernel⟩, ziRX7, zIRX7, zmX7_init, znX7_init, rfl, rfl, z_lek rfl, z_lek rfl, z_lek rfl⟩
def z_pls (n : Nat) : List z_C := .inl (3, [some (some (n + 1)), some (some (n + 2)), some (some (n + 3)), some (some (n + 4)), some (some (n + 5)), some (some (n + 6)), some (some (n + 7)), some (some (n + 8)), some (some (n + 9)), none, none, none]) :: ((((((((([] ++ [.inr (.inl (0, 50))]) ++ [.inr (.inl (0, 10))]) ++ [.inr (.inl (0, 10))]) ++ [.inr (.inl (0, 24))]) ++ [.inr (.inl (0, 24))]) ++ [.inr (.inl (0, 24))]) ++ [.inr (.inl (0, 24))]) ++ [.inr (.inl (1, 24))]) ++ z_lgs (n + 9))
theorem z_pls_len (n : Nat) : (z_pls n).length = 11 := by simp only [z_pls, List.length_append, List.length_cons, List.length_nil, z_lgs_len, z_nts_len, z_tps_len, z_txs_len]
theorem z_ctorX3 : z_ctor mX3_init 3 [some none, some none, some none, some none, some none, some none, some none, some none, some none, none, none, none] 11 z_pls := by
  intro pre n w Q hn hlt hlo h
  have hLv : z_lv (n + 1) [(0, z_r n)] := z_lv1 (by omega)
  refine z_aload_n 0 dX3_init_0 rfl rfl ?_
  refine z_objInit zORX3_3 z_oin z_oco ⟨Nat.le_of_ble_eq_true rfl, Nat.le_of_ble_eq_true rfl⟩ dX3_init_1 ?_
  rw [← z_zf_0 w (n + 1)]
  refine z_sA (N := 50) (kd := 0) (k := 0) hn (m := n + 1 + 0) (by simp only [List.length_append, List.length_cons, List.length_nil, z_lgs_len, z_nts_len, z_tps_len, z_txs_len]) rfl dX3_init_4 (z_hp2 (n := 50) dX3_init_5 rfl (by constructor <;> decide)) (Or.inl ⟨rfl, rfl⟩) z_awi ⟨by decide, by decide⟩ dX3_init_7 zoRX3_9 rfl z_hta dX3_init_9 (Nat.le_of_ble_eq_true rfl) (by omega) ⟨by show (50 : Nat) ≤ (313 : Nat); decide, by show (50 : Nat) ≤ (313 : Nat); decide⟩ hLv hlo (fun hlo => ?_)
  refine z_sA (N := 10) (kd := 0) (k := 1) hn (m := n + 1 + 1) (by simp only [List.length_append, List.length_cons, List.length_nil, z_lgs_len, z_nts_len, z_tps_len, z_txs_len]) rfl dX3_init_12 (z_hp2 (n := 10) dX3_init_13 rfl (by constructor <;> decide)) (Or.inl ⟨rfl, rfl⟩) z_awi ⟨by decide, by decide⟩ dX3_init_15 zoRX3_15 rfl z_hta dX3_init_17 (Nat.le_of_ble_eq_true rfl) (by omega) ⟨by show (60 : Nat) ≤ (313 : Nat); decide, by show (60 : Nat) ≤ (313 : Nat); decide⟩ hLv hlo (fun hlo => ?_)
  refine z_sA (N := 10) (kd := 0) (k := 2) hn (m := n + 1 + 2) (by simp only [List.length_append, List.length_cons, List.length_nil, z_lgs_len, z_nts_len, z_tps_len, z_txs_len]) rfl dX3_init_20 (z_hp2 (n := 10) dX3_init_21 rfl (by constructor <;> decide)) (Or.inl ⟨rfl, rfl⟩) z_awi ⟨by decide, by decide⟩ dX3_init_23 zoRX3_18 rfl z_hta dX3_init_25 (Nat.le_of_ble_eq_true rfl) (by omega) ⟨by show (70 : Nat) ≤ (313 : Nat); decide, by show (70 : Nat) ≤ (313 : Nat); decide⟩ hLv hlo (fun hlo => ?_)
  refine z_sA (N := 24) (kd := 0) (k := 3) hn (m := n + 1 + 3) (by simp only [List.length_append, List.length_cons, List.length_nil, z_lgs_len, z_nts_len, z_tps_len, z_txs_len]) rfl dX3_init_28 (z_hp2 (n := 24) dX3_init_29 rfl (by constructor <;> decide)) (Or.inl ⟨rfl, rfl⟩) z_awi ⟨by decide, by decide⟩ dX3_init_31 zoRX3_21 rfl z_hta dX3_init_33 (Nat.le_of_ble_eq_true rfl) (by omega) ⟨by show (94 : Nat) ≤ (313 : Nat); decide, by show (94 : Nat) ≤ (313 : Nat); decide⟩ hLv hlo (fun hlo => ?_)
  refine z_sA (N := 24) (kd := 0) (k := 4) hn (m := n + 1 + 4) (by simp only [List.length_append, List.length_cons, List.length_nil, z_lgs_len, z_nts_len, z_tps_len, z_txs_len]) rfl dX3_init_36 (z_hp2 (n := 24) dX3_init_37 rfl (by constructor <;> decide)) (Or.inl ⟨rfl, rfl⟩) z_awi ⟨by decide, by decide⟩ dX3_init_39 zoRX3_24 rfl z_hta dX3_init_41 (Nat.le_of_ble_eq_true rfl) (by omega) ⟨by show (118 : Nat) ≤ (313 : Nat); decide, by show (118 : Nat) ≤ (313 : Nat); decide⟩ hLv hlo (fun hlo => ?_)
  refine z_sA (N := 24) (kd := 0) (k := 5) hn (m := n + 1 + 5) (by simp only [List.length_append, List.length_cons, List.length_nil, z_lgs_len, z_nts_len, z_tps_len, z_txs_len]) rfl dX3_init_44 (z_hp2 (n := 24) dX3_init_45 rfl (by constructor <;> decide)) (Or.inl ⟨rfl, rfl⟩) z_awi ⟨by decide, by decide⟩ dX3_init_47 zoRX3_27 rfl z_hta dX3_init_49 (Nat.le_of_ble_eq_true rfl) (by omega) ⟨by show (142 : Nat) ≤ (313 : Nat); decide, by show (142 : Nat) ≤ (313 : Nat); decide⟩ hLv hlo (fun hlo => ?_)
  refine z_sA (N := 24) (kd := 0) (k := 6) hn (m := n + 1 + 6) (by simp only [List.length_append, List.length_cons, List.length_nil, z_lgs_len, z_nts_len, z_tps_len, z_txs_len]) rfl dX3_init_52 (z_hp2 (n := 24) dX3_init_53 rfl (by constructor <;> decide)) (Or.inl ⟨rfl, rfl⟩) z_awi ⟨by decide, by decide⟩ dX3_init_55 zoRX3_30 rfl z_hta dX3_init_57 (Nat.le_of_ble_eq_true rfl) (by omega) ⟨by show (166 : Nat) ≤ (313 : Nat); decide, by show (166 : Nat) ≤ (313 : Nat); decide⟩ hLv hlo (fun hlo => ?_)
  refine z_sA (N := 24) (kd := 1) (k := 7) hn (m := n + 1 + 7) (by simp only [List.length_append, List.length_cons, List.length_nil, z_lgs_len, z_nts_len, z_tps_len, z_txs_len]) rfl dX3_init_60 (z_hp2 (n := 24) dX3_init_61 rfl (by constructor <;> decide)) (Or.inr (Or.inl ⟨rfl, rfl⟩)) z_awz ⟨by decide, by decide⟩ dX3_init_63 zoRX3_33 rfl z_htz dX3_init_65 (Nat.le_of_ble_eq_true rfl) (by omega) ⟨by show (190 : Nat) ≤ (313 : Nat); decide, by show (190 : Nat) ≤ (313 : Nat); decide⟩ hLv hlo (fun hlo => ?_)
  refine z_sB (k := 8) z_rwcX1 zcRX3_37 zlRX3_39 ⟨Nat.le_of_ble_eq_true rfl, Nat.le_of_ble_eq_true rfl⟩ hn (m := n + 1 + 8) (by simp only [List.length_append, List.length_cons, List.length_nil, z_lgs_len, z_nts_len, z_tps_len, z_txs_len]) rfl dX3_init_68 dX3_init_69 dX3_init_72 dX3_init_73 zoRX3_40 rfl z_hto dX3_init_76 (Nat.le_of_ble_eq_true rfl) (Nat.le_of_ble_eq_true rfl) (by omega) (z_lgs_len _) ⟨by show (313 : Nat) ≤ (313 : Nat); decide, by show (313 : Nat) ≤ (313 : Nat); decide⟩ hLv hlo (fun hlo => ?_)
  exact z_ret (v := none) dX3_init_79 ⟨rfl, rfl⟩ rfl (h hlo)
theorem z_rwcX3 : z_rwc mX3_init 3 RX3 12 [some none, some none, some none, some none, some none, some none, some none, some none, some none, none, none, none] 11 z_pls := ⟨z_ctorX3, ⟨TX3, tyX3, z_k3, rfl, by decide +kernel⟩, ziRX3, zIRX3, zmX3_init, znX3_init, rfl, rfl, z_lek rfl, z_lek rfl, z_lek rfl⟩
def z_rds (n : Nat) : List z_C := .inl (4, [some (some (n + 1)), some (some (n + 3)), some (some (n + 14)), none, none, none]) :: ((([] ++ z_tps (n + 1)) ++ z_pls (n + 3)) ++ z_nts (n + 14))
theorem z_rds_len (n : Nat) : (z_rds n).length = 20 := by simp only [z_rds, List.length_append, List.length_cons, List.length_nil, z_lgs_len, z_nts_len, z_tps_len, z_txs_len, z_pls_len]
theorem z_ctorX4 : z_ctor mX4_init 4 [some none, some none, some none, none, none, none] 20 z_rds := by
  intro pre n w Q hn hlt hlo h
  have hLv : z_lv (n + 1) [(0, z_r n)] := z_lv1 (by omega)
  refine z_aload_n 0 dX4_init_0 rfl rfl ?_
  refine z_objInit zORX4_3 z_oin z_oco ⟨Nat.le_of_ble_eq_true rfl, Nat.le_of_ble_eq_true rfl⟩ dX4_init_1 ?_
  rw [← z_zf_0 w (n + 1)]
  refine z_sB (k := 0) z_rwcX6 zcRX4_9 zlRX4_11 ⟨Nat.le_of_ble_eq_true rfl, Nat.le_of_ble_eq_true rfl⟩ hn (m := n + 1 + 0) (by simp only [List.length_append, List.length_cons, List.length_nil, z_lgs_len, z_nts_len, z_tps_len, z_txs_len, z_pls_len]) rfl dX4_init_4 dX4_init_5 dX4_init_8 dX4_init_9 zoRX4_12 rfl z_hto dX4_init_12 (Nat.le_of_ble_eq_true rfl) (Nat.le_of_ble_eq_true rfl) (by omega) (z_tps_len _) ⟨by show (902 : Nat) ≤ (1574 : Nat); decide, by show (902 : Nat) ≤ (1574 : Nat); decide⟩ hLv hlo (fun hlo => ?_)
  refine z_sB (k := 1) z_rwcX3 zcRX4_18 zlRX4_20 ⟨Nat.le_of_ble_eq_true rfl, Nat.le_of_ble_eq_true rfl⟩ hn (m := n + 1 + 2) (by simp only [List.length_append, List.length_cons, List.length_nil, z_lgs_len, z_nts_len, z_tps_len, z_txs_len, z_pls_len]) rfl dX4_init_15 dX4_init_16 dX4_init_19 dX4_init_20 zoRX4_21 rfl z_hto dX4_init_23 (Nat.le_of_ble_eq_true rfl) (Nat.le_of_ble_eq_true rfl) (by omega) (z_pls_len _) ⟨by show (1227 : Nat) ≤ (1574 : Nat); decide, by show (1227 : Nat) ≤ (1574 : Nat); decide⟩ hLv hlo (fun hlo => ?_)
  refine z_sB (k := 2) z_rwcX2 zcRX4_25 zlRX4_27 ⟨Nat.le_of_ble_eq_true rfl, Nat.le_of_ble_eq_true rfl⟩ hn (m := n + 1 + 13) (by simp only [List.length_append, List.length_cons, List.length_nil, z_lgs_len, z_nts_len, z_tps_len, z_txs_len, z_pls_len]) rfl dX4_init_26 dX4_init_27 dX4_init_30 dX4_init_31 zoRX4_28 rfl z_hto dX4_init_34 (Nat.le_of_ble_eq_true rfl) (Nat.le_of_ble_eq_true rfl) (by omega) (z_nts_len _) ⟨by show (1574 : Nat) ≤ (1574 : Nat); decide, by show (1574 : Nat) ≤ (1574 : Nat); decide⟩ hLv hlo (fun hlo => ?_)
  exact z_ret (v := none) dX4_init_37 ⟨rfl, rfl⟩ rfl (h hlo)
theorem z_rwcX4 : z_rwc mX4_init 4 RX4 6 [some none, some none, some none, none, none, none] 20 z_rds := ⟨z_ctorX4, ⟨TX4, tyX4, z_k4, rfl, by decide +kernel⟩, ziRX4, zIRX4, zmX4_init, znX4_init, rfl, rfl, z_lek rfl, z_lek rfl, z_lek rfl⟩
