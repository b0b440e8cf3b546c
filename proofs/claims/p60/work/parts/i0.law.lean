/-! THE LAW -/
abbrev z_sh3 : List z_C := [.inr (.inl (0, 8)), .inr (.inl (0, 400)), .inr (.inl (0, 400))]
abbrev mLset : z_M := (yL_setup, cL_setup, 10, some (.object "java/lang/String"), { frames := 10, cells := 4096, slots := 4096, locals := 223 })
/-- what setup does -/
def z_setups : Prop := ∀ (sh : List z_C) (w : z_Mm) (Q : Option z_V → z_S → Prop), sh[0]? = some (.inr (.inl (0, 8))) → sh.length = 164 → z_cls0 sh →
  (∀ (A : z_A) (sh' : List z_C) (w' : z_Mm) (x v : Nat), z_ok A → z_nmi A → z_as (z_stx A) → z_isSt sh' x v (z_stx A).length → w' x 1 = 0 → z_tx w' v (z_stx A) → 164 ≤ x → 164 ≤ v → (∀ b : Nat, b < 164 → sh'[b]? = sh[b]?) → (∀ a : Nat, 1 ≤ a → a < 164 → w' a = w a) → z_cls0 sh' → 164 ≤ sh'.length → Q (some (z_r x)) (sh', w')) → z_Sem mLset (sh.length, 0) 0 [(0, z_r 0)] [] (sh, w) Q
abbrev mLaw : z_M := (x, code, 9, some .boolean, room_1)
def z_r3 (a : Nat) : Nat := if a < 161 then 3 + a else a - 161
section ZLAWS
variable {tgs : List z_C} {w : z_Mm} {Q : Option z_V → z_S → Prop} {A : z_A} {H : List z_A} {T : z_T} {er : Int} {z : Nat}
theorem z_same.nmi {P : z_A} (h : z_same A P) (hA : z_nmi A) : z_nmi P := by
  obtain ⟨h1, h2⟩ := h
  obtain ⟨a1, a2⟩ := hA
  have e1 : P 1 0 = A 1 0 := h1.2.1.symm
  refine ⟨fun e e0 e1' => by rw [h2 e ⟨by omega, by omega⟩]; exact a1 e e0 (by omega), fun e f he hf hef => ?_⟩
  rw [e1] at he hf
  rw [h2 e he, h2 f hf] at hef
  exact a2 e f he hf hef
abbrev z_lsh (tgs : List z_C) : List z_C := z_sh3 ++ tgs.map (z_rc (fun a => 3 + a))
abbrev z_sc3 (tgs : List z_C) : List z_C := tgs ++ z_sh3
theorem z_lsh_len (h : tgs.length = 161) : (z_lsh tgs).length = 164 := by rw [List.length_append, List.length_map, h]; rfl
theorem z_sc3_len (h : tgs.length = 161) : (z_sc3 tgs).length = 164 := by rw [List.length_append, h]; rfl
theorem z_r3_lo {a : Nat} (h : a < 161) : z_r3 a = 3 + a := if_pos h
theorem z_pull3 (htg : tgs.length = 161) (hc : z_cls0 tgs) : z_pull z_r3 (z_lsh tgs) (z_sc3 tgs) := by
  refine ⟨fun a c hac => ?_, fun a b ha hb q => ?_⟩
  · rcases Nat.lt_or_ge a 161 with ha | ha
    · rw [List.getElem?_append_left (by omega)] at hac
      have hvc := hc c (List.mem_of_getElem? hac)
      rw [htg] at hvc
      rw [z_r3_lo ha, List.getElem?_append_right (show z_sh3.length ≤ 3 + a by show 3 ≤ 3 + a; omega), show 3 + a - z_sh3.length = a by show 3 + a - 3 = a; omega, List.getElem?_map, hac, z_rc_cg (r' := fun a => 3 + a) hvc (by decide) (fun b hb => z_r3_lo hb)]
      rfl
    · rw [List.getElem?_append_right (by omega), htg] at hac
      have hal := (List.getElem?_eq_some_iff.mp hac).1
      have hal' : a - 161 < 3 := hal
      have e : z_r3 a = a - 161 := by unfold z_r3; rw [if_neg (by omega)]
      rw [e, List.getElem?_append_left (show a - 161 < z_sh3.length by show a - 161 < 3; omega), hac]
      have hr : ∀ k : Nat, k < 3 → ∀ c, z_sh3[k]? = some c → z_rc z_r3 c = c := by
        intro k hk c hkc
        have hm : c ∈ z_sh3 := List.mem_of_getElem? hkc
        simp only [List.mem_cons, List.not_mem_nil, or_false] at hm
        rcases hm with h | h | h <;> (rw [h]; exact (z_rc.eq_2 _ _))
      rw [hr _ hal' c hac]
  · rw [z_sc3_len htg] at ha hb
    unfold z_r3 at q
    split at q <;> split at q <;> omega
theorem z_cls_sc3 (hc : z_cls0 tgs) : z_cls0 (z_sc3 tgs) := by
  unfold z_cls0
  rw [List.length_append]
  refine z_cl1_app hc (fun c hcc => ?_)
  simp only [List.mem_cons, List.not_mem_nil, or_false] at hcc
  rcases hcc with rfl | rfl | rfl <;> exact True.intro
theorem z_cls_map {sh : List z_C} (n : Nat) (hlo : z_cls0 sh) (hn : sh.length = n) (hct : z_cls0 tgs) (hl : tgs.length ≤ 900) : z_cls0 (sh ++ tgs.map (z_rc (fun a => n + a))) := by
  unfold z_cls0
  rw [List.length_append]
  refine z_cl1_app hlo (fun c hc => ?_)
  obtain ⟨d, hd, rfl⟩ := List.mem_map.mp hc
  have hvd := hct d hd
  rw [List.length_map]
  rcases d with ⟨ci, fl⟩ | q | rs
  · intro o ho a ha
    obtain ⟨o1, ho1, rfl⟩ := List.mem_map.mp ho
    rcases o1 with _ | _ | b
    · cases ha
    · cases ha
    · have := hvd _ ho1 b rfl
      have e : z_rnm (fun a => n + a) b = a := by injection ha with ha; injection ha
      rcases this with q | q
      · rw [z_rnm_lt (by omega)] at e
        have e' : n + b = a := e
        left; omega
      · rw [z_rnm_ge q] at e
        right; omega
  · exact True.intro
  · intro o ho a ha
    obtain ⟨o1, ho1, rfl⟩ := List.mem_map.mp ho
    rcases o1 with _ | b
    · cases ha
    · have := hvd _ ho1 b rfl
      have e : z_rnm (fun a => n + a) b = a := by injection ha with ha; injection ha
      rcases this with q | q
      · rw [z_rnm_lt (by omega)] at e
        have e' : n + b = a := e
        left; omega
      · rw [z_rnm_ge q] at e
        right; omega
/-- the object holds a net whose names are as wanted -/
def z_ls (w : z_Mm) : Prop := ∃ (A : z_A) (H : List z_A) (T : z_T) (er : Int), z_JC (z_pw z_r3 w) A H T er (fun _ => none) ∧ T.1 = 0 ∧ z_nmi A
theorem z_ls_mw {w' : z_Mm} (htg : tgs.length = 161) (hc : z_cls0 tgs) (h : z_JC w' A H T er (fun _ => none)) (hT : T.1 = 0) (hn : z_nmi A) : z_ls (z_mw z_r3 (z_sc3 tgs).length w w') := by
  refine ⟨A, H, T, er, h.fr (fun a ha _ => ?_), hT, hn⟩
  rw [z_pw_at (by omega)]
  exact z_mw_in (z_pull3 htg hc).2 (by rw [z_sc3_len htg]; omega)
theorem z_hvs1 : [z_r 0].map (z_rv z_r3) = [z_r 3] := rfl
theorem z_hvs2 : [z_r 0, z_r 161].map (z_rv z_r3) = [z_r 3, z_r 0] := rfl
theorem z_hvs4 : [z_r 0, z_r 161, z_r 162, z_r 163].map (z_rv z_r3) = [z_r 3, z_r 0, z_r 1, z_r 2] := rfl
/-- bounds -/
theorem z_goB {pc : Nat} {L : List (Nat × z_V)} (hctor : z_ctorTG tgs) (hd : decode code pc = .ok (.invokestatic 288, 3)) (hz : z ≤ 600000) (hl : z_ls w) (kk : ∀ w', z_ls w' → z_Sem mLaw (0, z) (pc + 3) L [z_i 1] (z_lsh tgs, w') Q) : z_Sem mLaw (0, z) pc L [z_r 3] (z_lsh tgs, w) Q := by
  obtain ⟨c1, c2, c3, -⟩ := hctor
  obtain ⟨A, H, T, er, hj, hT0, hn⟩ := hl
  refine z_callP z_r3 (M' := mL_bounds) (sc := z_sc3 tgs) (vs := [z_r 0]) (rest := []) (by rw [z_hvs1]; exact z_invS (As := [z_r 3]) zmL_bounds ztL_bounds zlRL_288 ⟨z_lek rfl, z_lek rfl⟩ hd rfl) zmL_bounds.2.2.2.2 (fun _ _ _ _ _ _ _ _ _ _ _ => True.intro) rfl (z_ar z_a0) (z_lek rfl) (z_lek rfl) (z_pull3 c1 c3) (by rw [z_sc3_len c1]; decide) (z_cls_sc3 c3) (Nat.le_refl _) ⟨hz, by show z ≤ 7302250; omega⟩ ?_
  refine z_CIm (K := fun y w' => y = 1 ∧ z_JC w' A H T er (fun _ => none)) (uL_bounds hj.1.1 (z_sc3 tgs) _ _ (z_TGapp c2) hj (fun w' h1 _ => ⟨rfl, h1⟩)) ?_
  rintro _ w' ⟨rfl, h1⟩
  exact ⟨rfl, fun x hx => by injection hx with hx; rw [← hx]; exact True.intro, kk _ (z_ls_mw c1 c3 h1 hT0 hn)⟩
theorem z_goA {pc : Nat} {L : List (Nat × z_V)} (hctor : z_ctorTG tgs) (hd : decode code pc = .ok (.invokestatic 262, 3)) (hz : z + 1024 ≤ 600000) (hl : z_ls w) (kk : ∀ y w', z_ls w' → z_Sem mLaw (0, z + 1024) (pc + 3) L [z_i y] (z_lsh tgs, w') Q) : z_Sem mLaw (0, z) pc L [z_r 0, z_r 3] (z_lsh tgs, w) Q := by
  obtain ⟨c1, c2, c3, -⟩ := hctor
  obtain ⟨A, H, T, er, hj, hT0, hn⟩ := hl
  refine z_callP z_r3 (M' := mLa) (sc := z_sc3 tgs) (vs := [z_r 0, z_r 161]) (rest := []) (by rw [z_hvs2]; exact z_invS (As := [z_r 3, z_r 0]) zmL_acts ztL_acts zlRL_262 ⟨z_lek rfl, z_lek rfl⟩ hd rfl) zmL_acts.2.2.2.2 (fun _ _ _ _ _ _ _ _ _ _ _ => True.intro) rfl (z_ar (z_ar z_a0)) (z_lek rfl) (z_lek rfl) (z_pull3 c1 c3) (by rw [z_sc3_len c1]; decide) (z_cls_sc3 c3) (Nat.le_refl _) ⟨by show z + 1024 ≤ 600000; omega, by show z + 1024 ≤ 7302250; omega⟩ ?_
  refine L_acts (sh := z_sc3 tgs) (z_TGapp c2) (by rw [List.getElem?_append_right (by omega), c1]; rfl) (by decide) (by rw [z_sc3_len c1]; decide) (z_cls_sc3 c3) (fun y w' A' H' T' h1 h2 h3 _ => ⟨rfl, fun x hx => by injection hx with hx; rw [← hx]; exact True.intro, kk y _ (z_ls_mw c1 c3 h1 h2 h3)⟩) hj hT0 hn
theorem z_goF {pc : Nat} {L : List (Nat × z_V)} (hctor : z_ctorTG tgs) (hd : decode code pc = .ok (.invokestatic 292, 3)) (hz : z ≤ 600000) (hl : z_ls w) (kk : ∀ w', z_ls w' → z_Sem mLaw (0, z) (pc + 3) L [z_i 1] (z_lsh tgs, w') Q) : z_Sem mLaw (0, z) pc L [z_r 2, z_r 1, z_r 0, z_r 3] (z_lsh tgs, w) Q := by
  obtain ⟨c1, c2, c3, -⟩ := hctor
  obtain ⟨A, H, T, er, hj, hT0, hn⟩ := hl
  refine z_callP z_r3 (M' := mL_foretold) (sc := z_sc3 tgs) (vs := [z_r 0, z_r 161, z_r 162, z_r 163]) (rest := []) (by rw [z_hvs4]; exact z_invS (As := [z_r 3, z_r 0, z_r 1, z_r 2]) zmL_foretold ztL_foretold zlRL_292 ⟨z_lek rfl, z_lek rfl⟩ hd rfl) zmL_foretold.2.2.2.2 (fun _ _ _ _ _ _ _ _ _ _ _ => True.intro) rfl (z_ar (z_ar (z_ar (z_ar z_a0)))) (z_lek rfl) (z_lek rfl) (z_pull3 c1 c3) (by rw [z_sc3_len c1]; decide) (z_cls_sc3 c3) (Nat.le_refl _) ⟨hz, by show z ≤ 7302250; omega⟩ ?_
  have hr : z_rws3 (z_sc3 tgs) 161 162 163 := ⟨by decide, by decide, by rw [List.getElem?_append_right (by omega), c1]; rfl, by rw [List.getElem?_append_right (by omega), c1]; rfl, by rw [List.getElem?_append_right (by omega), c1]; rfl⟩
  refine z_CIm (K := fun y w' => y = 1 ∧ ∃ H', z_JC w' A H' T er (fun _ => none)) (L_foretold (z_TGapp c2) hr hj (fun w' H' h1 => ⟨rfl, H', h1.1⟩)) ?_
  rintro _ w' ⟨rfl, H', h1⟩
  exact ⟨rfl, fun x hx => by injection hx with hx; rw [← hx]; exact True.intro, kk _ (z_ls_mw c1 c3 h1 hT0 hn)⟩
theorem z_goUn {pc : Nat} {L : List (Nat × z_V)} (hpar : z_parses) (hctor : z_ctorTG tgs) (hd : decode code pc = .ok (.invokestatic 295, 3)) (hz : z + 40000 ≤ 600000) (hl : z_ls w) (kk : ∀ w', z_Sem mLaw (0, z + 40000) (pc + 3) L [z_i 1] (z_lsh tgs, w') Q) : z_Sem mLaw (0, z) pc L [z_r 2, z_r 1, z_r 0, z_r 3] (z_lsh tgs, w) Q := by
  have hctor' := hctor
  obtain ⟨c1, c2, c3, -⟩ := hctor
  obtain ⟨A, H, T, er, hj, hT0, hn⟩ := hl
  refine z_callP z_r3 (M' := mLu) (sc := z_sc3 tgs) (vs := [z_r 0, z_r 161, z_r 162, z_r 163]) (rest := []) (by rw [z_hvs4]; exact z_invS (As := [z_r 3, z_r 0, z_r 1, z_r 2]) zmL_undone ztL_undone zlRL_295 ⟨z_lek rfl, z_lek rfl⟩ hd rfl) zmL_undone.2.2.2.2 (fun _ _ _ _ _ _ _ _ _ _ _ => True.intro) rfl (z_ar (z_ar (z_ar (z_ar z_a0)))) (z_lek rfl) (z_lek rfl) (z_pull3 c1 c3) (by rw [z_sc3_len c1]; decide) (z_cls_sc3 c3) (Nat.le_refl _) ⟨by show z + 40000 ≤ 600000; omega, by show z + 40000 ≤ 7302250; omega⟩ ?_
  rw [z_sc3_len c1]
  refine L_undone (sh := z_sc3 tgs) (s := fun _ => none) hpar hctor' (z_sc3_len c1) (z_cls_sc3 c3) (z_TGapp c2) (by rw [List.getElem?_append_right (by omega), c1]; rfl) (by rw [List.getElem?_append_right (by omega), c1]; rfl) (by rw [List.getElem?_append_right (by omega), c1]; rfl) rfl hj hT0 hn (fun w' => ⟨rfl, fun x hx => by injection hx with hx; rw [← hx]; exact True.intro, kk _⟩)
end ZLAWS
