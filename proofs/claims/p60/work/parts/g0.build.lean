/-! BUILDERS, AS THE LAW USES THEM -/
def z_bld (sh : List z_C) (w : z_Mm) (a m : Nat) (t : List Int) : Prop := ∃ v : Nat, a < v ∧ z_isSb sh a v m ∧ w a 1 = 0 ∧ w a 3 = (t.length : Int) ∧ t.length ≤ m ∧ z_tx w v t ∧ z_as t ∧ (∀ j : Int, 0 ≤ j → j < m → 0 ≤ w v j ∧ w v j < 128) ∧ 16 ≤ m
/-- cells below a are as they were -/
def z_frb (a : Nat) (sh sh' : List z_C) (w w' : z_Mm) : Prop := ∀ b : Nat, b < a → sh'[b]? = sh[b]? ∧ w' b = w b
theorem z_frb.trans {a : Nat} {s0 s1 s2 : List z_C} {w0 w1 w2 : z_Mm} (h1 : z_frb a s0 s1 w0 w1) (h2 : z_frb a s1 s2 w1 w2) : z_frb a s0 s2 w0 w2 := fun b hb => ⟨(h2 b hb).1.trans (h1 b hb).1, (h2 b hb).2.trans (h1 b hb).2⟩
theorem z_frb.le {a a' : Nat} {s0 s1 : List z_C} {w0 w1 : z_Mm} (h : z_frb a s0 s1 w0 w1) (ha : a' ≤ a) : z_frb a' s0 s1 w0 w1 := fun b hb => h b (by omega)
theorem z_vv_le {n n' : Nat} {v : z_V} (h : z_vv n v) (hn : n ≤ n') : z_vv n' v := by
  rcases v with x | x | x | x | x
  · exact True.intro
  · rcases h with h | h
    · exact Or.inl (by omega)
    · exact Or.inr h
  · exact True.intro
  · exact True.intro
  · exact True.intro
theorem z_lv_le {n n' : Nat} {L : List (Nat × z_V)} (h : z_lv n L) (hn : n ≤ n') : z_lv n' L := fun q hq => z_vv_le (h q hq) hn
theorem z_sv_le {n n' : Nat} {L : List z_V} (h : z_sv1 n L) (hn : n ≤ n') : z_sv1 n' L := fun q hq => z_vv_le (h q hq) hn
theorem z_as_app {t t2 : List Int} (h : z_as t) (h2 : z_as t2) : z_as (t ++ t2) := fun b hb => by
  rcases List.mem_append.mp hb with h1 | h1
  · exact h b h1
  · exact h2 b h1
theorem z_W_W {w : z_Mm} {a v : Nat} {i x j y : Int} (h : a ≠ v) : z_W (z_W w a i x) v j y = z_W (z_W w v j y) a i x := by
  funext b k
  show (if b = v ∧ k = j then y else if b = a ∧ k = i then x else w b k) = if b = a ∧ k = i then x else if b = v ∧ k = j then y else w b k
  by_cases c1 : b = v
  · have : ¬ b = a := fun e => h (e.symm.trans c1)
    simp [c1, h.symm]
  · simp [c1]
theorem z_put_1 {w : z_Mm} {v : Nat} {n c : Int} : z_put w v n [c] = z_W w v n c := by
  funext b j
  show (if b = v ∧ n ≤ j ∧ j < n + (1 : Nat) then ([c][(j - n).toNat]?).getD 0 else w b j) = if b = v ∧ j = n then c else w b j
  by_cases h : b = v ∧ j = n
  · rw [if_pos h, if_pos ⟨h.1, by omega, by omega⟩, show (j - n).toNat = 0 by omega]
    rfl
  · rw [if_neg h, if_neg (fun q => h ⟨q.1, by omega⟩)]
theorem z_mxc (x y : Int) : (max x y = x ∧ y ≤ x) ∨ (max x y = y ∧ x ≤ y) := by
  rcases Int.le_total x y with h | h
  · exact Or.inr ⟨Int.max_eq_right h, h⟩
  · exact Or.inl ⟨Int.max_eq_left h, h⟩
def z_kp (m : Nat) (q : Int) (k : Nat) : Prop := ((m : Int) < q → (k : Int) = (m : Int) + max (q - m) (m + 2)) ∧ (¬ (m : Int) < q → k = 1)
theorem z_kp_ex (m : Nat) (q : Int) : ∃ k : Nat, z_kp m q k ∧ 1 ≤ k ∧ 2 * (m : Int) + k ≤ 1 + 2 * max (m : Int) (2 * q + 2) ∧ ((m : Int) < q → (m : Int) + max (q - m) (m + 2) ≤ k) := by
  by_cases c : (m : Int) < q
  · have h2 := Int.le_max_right (q - m) ((m : Int) + 2)
    have h3 := Int.le_max_right (m : Int) (2 * q + 2)
    refine ⟨((m : Int) + max (q - m) (m + 2)).toNat, ⟨fun _ => by omega, fun h => absurd c h⟩, by omega, ?_, fun _ => by omega⟩
    rcases z_mxc (q - m) (m + 2) with ⟨e, hh⟩ | ⟨e, hh⟩
    · rw [e]; omega
    · rw [e]; omega
  · have h3 := Int.le_max_left (m : Int) (2 * q + 2)
    exact ⟨1, ⟨fun h => absurd h c, fun _ => rfl⟩, Nat.le_refl _, by omega, fun h => absurd h c⟩
theorem z_gr.m {sh : List z_C} {w : z_Mm} {a v m : Nat} {q : Int} {sh' : List z_C} {w' : z_Mm} {v' m' : Nat} (h16 : 16 ≤ m) (h : z_gr sh w a v m q sh' w' v' m') : m ≤ m' ∧ (m' : Int) ≤ max (m : Int) (2 * q + 2) ∧ 16 * sh'.length + m ≤ 16 * sh.length + m' ∧ ∀ k : Nat, z_kp m q k → 2 * m + k ≤ 1 + 2 * m' := by
  rcases h with ⟨rfl, -, -, rfl, h⟩ | ⟨h0, rfl, -, h4, -⟩
  · refine ⟨Nat.le_refl _, Int.le_max_left _ _, Nat.le_refl _, fun k h2 => ?_⟩
    have := h2.2 (by omega)
    omega
  · rw [List.length_append, List.length_set, List.length_singleton]
    rcases z_mxc (q - m) (m + 2) with ⟨e, hh⟩ | ⟨e, hh⟩
    · rw [e] at h4
      refine ⟨by omega, Int.le_trans (by omega) (Int.le_max_right _ _), by omega, fun k h1 => ?_⟩
      have := h1.1 h0
      rw [e] at this
      omega
    · rw [e] at h4
      refine ⟨by omega, Int.le_trans (by omega) (Int.le_max_right _ _), by omega, fun k h1 => ?_⟩
      have := h1.1 h0
      rw [e] at this
      omega
/-- a builder that has grown and been written -/
theorem z_bld_gr {sh sh' : List z_C} {w w' : z_Mm} {a v m v' m' : Nat} {t t2 : List Int} (hav : a < v) (hs : z_isSb sh a v m) (h1 : w a 1 = 0) (hx : z_tx w v t) (ht : z_as t) (hb : ∀ j : Int, 0 ≤ j → j < m → 0 ≤ w v j ∧ w v j < 128) (h16 : 16 ≤ m) (htm : t.length ≤ m) (h2 : z_as t2) (hlo : z_cls0 sh) (hg : z_gr sh w a v m ((t.length : Int) + t2.length) sh' w' v' m') :
    z_bld sh' (z_W (z_put w' v' (t.length : Int) t2) a 3 ((t.length : Int) + t2.length)) a m' (t ++ t2) ∧ z_frb a sh sh' w (z_W (z_put w' v' (t.length : Int) t2) a 3 ((t.length : Int) + t2.length)) ∧ z_cls0 sh' ∧ sh.length ≤ sh'.length ∧ 16 * sh'.length + m ≤ 16 * sh.length + m' ∧ m ≤ m' ∧ (m' : Int) ≤ max (m : Int) (2 * ((t.length : Int) + t2.length) + 2) ∧ ∀ k : Nat, z_kp m ((t.length : Int) + t2.length) k → 2 * m + k ≤ 1 + 2 * m' := by
  have hal := z_ltat hs.1
  have hvl := z_ltat hs.2
  obtain ⟨hs', hq', hwa, hav'⟩ := hg.sb hs
  obtain ⟨gm1, gm2, gm3, gm4⟩ := hg.m h16
  have hv'a : a < v' := by
    rcases hg with ⟨-, -, rfl, -, -⟩ | ⟨-, -, rfl, -⟩
    · exact hav
    · exact hal
  have hx' : z_tx w' v' t := by
    rcases hg with ⟨-, rfl, rfl, -, -⟩ | ⟨-, -, -, -, h5, -, -⟩
    · exact hx
    · intro k b hk
      have hkl := (List.getElem?_eq_some_iff.mp hk).1
      rw [h5 (k : Int) (by omega) (by omega)]
      exact hx k b hk
  have hb' : ∀ j : Int, 0 ≤ j → j < m' → 0 ≤ w' v' j ∧ w' v' j < 128 := by
    rcases hg with ⟨-, rfl, rfl, rfl, -⟩ | ⟨-, -, -, -, h5, h6, -⟩
    · exact hb
    · intro j j0 j1
      by_cases c : j < m
      · rw [h5 j j0 c]; exact hb j j0 c
      · rw [h6 j (Or.inr (by omega))]; decide
  have hW : ∀ j : Int, z_W (z_put w' v' (t.length : Int) t2) a 3 ((t.length : Int) + t2.length) v' j = z_put w' v' (t.length : Int) t2 v' j := fun j => if_neg (fun q => by have := q.1; omega)
  refine ⟨⟨v', hv'a, hs', ?_, ?_, ?_, fun k b hk => ?_, z_as_app ht h2, fun j j0 j1 => ?_, ?_⟩, fun b hba => ⟨?_, ?_⟩, ?_, hg.len, ?_, ?_, ?_, ?_⟩
  · show (if a = a ∧ (1 : Int) = 3 then _ else z_put w' v' (t.length : Int) t2 a 1) = 0
    rw [if_neg (fun q => absurd q.2 (by decide))]
    show (if a = v' ∧ _ then _ else w' a 1) = 0
    rw [if_neg (fun q => by have := q.1; omega), hwa]
    exact h1
  · show (if a = a ∧ (3 : Int) = 3 then (t.length : Int) + t2.length else _) = ((t ++ t2).length : Int)
    rw [if_pos ⟨rfl, rfl⟩, List.length_append]; omega
  · rw [List.length_append]; omega
  · rw [hW]
    show (if v' = v' ∧ (t.length : Int) ≤ (k : Int) ∧ (k : Int) < (t.length : Int) + t2.length then (t2[((k : Int) - t.length).toNat]?).getD 0 else w' v' (k : Int)) = b
    by_cases c : k < t.length
    · rw [if_neg (fun q => by have := q.2.1; omega)]
      rw [List.getElem?_append_left c] at hk
      exact hx' k b hk
    · rw [List.getElem?_append_right (by omega)] at hk
      have hkl := (List.getElem?_eq_some_iff.mp hk).1
      rw [if_pos ⟨rfl, by omega, by omega⟩, show ((k : Int) - t.length).toNat = k - t.length by omega, hk]
      rfl
  · rw [hW]
    show 0 ≤ (if v' = v' ∧ (t.length : Int) ≤ j ∧ j < (t.length : Int) + t2.length then (t2[(j - t.length).toNat]?).getD 0 else w' v' j) ∧ (if v' = v' ∧ (t.length : Int) ≤ j ∧ j < (t.length : Int) + t2.length then (t2[(j - t.length).toNat]?).getD 0 else w' v' j) < 128
    split
    · rename_i c
      rw [List.getElem?_eq_getElem (by omega : (j - t.length).toNat < t2.length)]
      exact h2 _ (List.getElem_mem _)
    · exact hb' j j0 j1
  · exact Nat.le_trans h16 gm1
  · rcases hg with ⟨rfl, -, -, -, -⟩ | ⟨-, rfl, -, -, -⟩
    · rfl
    · rw [List.getElem?_append_left (by rw [List.length_set]; omega), List.getElem?_set_ne (by omega)]
  · funext j
    show (if b = a ∧ j = 3 then _ else z_put w' v' (t.length : Int) t2 b j) = w b j
    rw [if_neg (fun q => by have := q.1; omega)]
    show (if b = v' ∧ _ then _ else w' b j) = w b j
    rw [if_neg (fun q => by have := q.1; omega)]
    rcases hg with ⟨-, rfl, -, -, -⟩ | ⟨-, -, rfl, -, -, -, h7⟩
    · rfl
    · rw [h7 b (by omega)]
  · rcases hg with ⟨rfl, -, -, -, -⟩ | ⟨-, rfl, -, -, -⟩
    · exact hlo
    · exact z_cls0_set hlo (by omega)
  · exact gm3
  · exact gm1
  · exact gm2
  · exact gm4
section ZBUILD
variable {M : z_M} {n0 c pc idx : Nat} {L : List (Nat × z_V)} {rest : List z_V} {sh : List z_C} {w : z_Mm} {Q : Option z_V → z_S → Prop} {a m : Nat} {t : List Int}
/-- what goes on after something has been appended -/
def z_apk (M : z_M) (n0 c pc : Nat) (L : List (Nat × z_V)) (rest : List z_V) (sh : List z_C) (w : z_Mm) (Q : Option z_V → z_S → Prop) (a m : Nat) (t t2 : List Int) : Prop := ∀ (sh' : List z_C) (w' : z_Mm) (m' : Nat), z_bld sh' w' a m' (t ++ t2) → z_frb a sh sh' w w' → z_cls0 sh' → sh.length ≤ sh'.length → 16 * sh'.length + m ≤ 16 * sh.length + m' → m ≤ m' → (m' : Int) ≤ max (m : Int) (2 * ((t.length : Int) + t2.length) + 2) → z_Sem M (n0, c + 1 + 2 * m') (pc + 3) L (z_r a :: rest) (sh', w') Q
theorem z_apS {x : Nat} {t2 : List Int} {k0 : Nat} (hlk : z_lk M.1.cls idx (mJ4_append_15ec4 k0)) (hrm : z_rm M (mJ4_append_15ec4 k0)) (hd : decode M.2.1 pc = .ok (.invokevirtual idx, 3)) (hb : z_bld sh w a m t) (hx : z_isx sh w x t2) (ht2 : t2.length ≤ 1000) (hm : m ≤ 8000 ∧ t.length + t2.length ≤ 4000) (hsl : sh.length < 900) (hlo : z_cls0 sh) (hLv : z_lv sh.length L) (hSv : z_sv1 sh.length rest) (hw : z_wds rest ≤ 8)
    (hcc : ((c : Int) + 1 + 2 * max (m : Int) (2 * ((t.length : Int) + t2.length) + 2) ≤ M.2.2.2.2.cells) ∧ M.2.2.2.2.cells = M.2.2.2.2.slots) (kk : z_apk M n0 c pc L rest sh w Q a m t t2) : z_Sem M (n0, c + 2 * m) pc L (z_r x :: z_r a :: rest) (sh, w) Q := by
  obtain ⟨v, hav, hs, h1, h3, htm, htx, hta, hbb, h16⟩ := hb
  have hal := z_ltat hs.1
  obtain ⟨k, hkp, hk1, hkc, hk4⟩ := z_kp_ex m ((t.length : Int) + t2.length)
  refine z_callA (M' := mJ4_append_15ec4 k) (vs := [z_r a, z_r x]) (rest := rest) (z_invV (C := RJ4) (As := [z_r x]) zmJ4_append_15ec4 znJ4_append_15ec4 zsJ4_append_15ec4 hlk hrm hd rfl) zwJ4_append_15ec4.2.2.2.2 (fun G p s m args meth c H locs hX hP => z_recC (σ := (sh, w)) z_cl10 hs.1 hX hP) rfl (z_ar (z_ar z_a0)) (z_lek rfl) hw hLv hSv (Nat.le_refl _) (by omega) (by show c + 2 * m + k ≤ M.2.2.2.2.cells ∧ c + 2 * m + k ≤ M.2.2.2.2.slots; omega) ?_
  refine t_J4_appendS hs h1 h3 ⟨by omega, by omega⟩ hx ht2 (by omega) hk1 hk4 (show sh.length < 1000 by omega) hlo hbb (fun sh' w' v' m' hg => ?_)
  obtain ⟨g1, g2, g3, g4, g5, g6, g7, g8⟩ := z_bld_gr hav hs h1 htx hta hbb h16 htm hx.1 hlo hg
  have hwid : c + 2 * m + k ≤ c + 1 + 2 * m' := by have := g8 k hkp; omega
  exact z_wid (z' := c + 1 + 2 * m') hwid (by omega) (kk sh' _ m' g1 g2 g3 g4 g5 g6 g7)
theorem z_apI {x : Int} {k0 : Nat} (hlk : z_lk M.1.cls idx (mJ4_append_bf812 k0)) (hrm : z_rm M (mJ4_append_bf812 k0)) (hd : decode M.2.1 pc = .ok (.invokevirtual idx, 3)) (hb : z_bld sh w a m t) (hx : 0 ≤ x ∧ x ≤ 99) (hm : m ≤ 8000 ∧ t.length + 3 ≤ 4000) (hsl : sh.length < 900) (hlo : z_cls0 sh) (hLv : z_lv sh.length L) (hSv : z_sv1 sh.length rest) (hw : z_wds rest ≤ 8)
    (hcc : ((c : Int) + 1 + 2 * max (m : Int) (2 * ((t.length : Int) + (z_dl x).length) + 2) ≤ M.2.2.2.2.cells) ∧ M.2.2.2.2.cells = M.2.2.2.2.slots) (kk : z_apk M n0 c pc L rest sh w Q a m t (z_dl x)) : z_Sem M (n0, c + 2 * m) pc L (z_i x :: z_r a :: rest) (sh, w) Q := by
  obtain ⟨v, hav, hs, h1, h3, htm, htx, hta, hbb, h16⟩ := hb
  have hal := z_ltat hs.1
  have hdl := z_dl_len x
  have hda : z_as (z_dl x) := by
    unfold z_dl
    split
    · intro b hb; rw [List.mem_singleton.mp hb]; omega
    · split
      · intro b hb
        simp only [List.mem_cons, List.not_mem_nil, or_false] at hb
        rcases hb with rfl | rfl <;> omega
      · omega
  obtain ⟨k, hkp, hk1, hkc, hk4⟩ := z_kp_ex m ((t.length : Int) + (z_dl x).length)
  refine z_callA (M' := mJ4_append_bf812 k) (vs := [z_r a, z_i x]) (rest := rest) (z_invV (C := RJ4) (As := [z_i x]) zmJ4_append_bf812 znJ4_append_bf812 zsJ4_append_bf812 hlk hrm hd rfl) zwJ4_append_bf812.2.2.2.2 (fun G p s m args meth c H locs hX hP => z_recC (σ := (sh, w)) z_cl10 hs.1 hX hP) rfl (z_ar (z_ai z_a0)) (z_lek rfl) hw hLv hSv (Nat.le_refl _) (by omega) (by show c + 2 * m + k ≤ M.2.2.2.2.cells ∧ c + 2 * m + k ≤ M.2.2.2.2.slots; omega) ?_
  refine t_J4_appendI hs h1 h3 ⟨by omega, by omega⟩ hx (by omega) hk1 hk4 (show sh.length < 1000 by omega) hlo hbb (fun sh' w' v' m' hg => ?_)
  obtain ⟨g1, g2, g3, g4, g5, g6, g7, g8⟩ := z_bld_gr hav hs h1 htx hta hbb h16 htm hda hlo hg
  have hwid : c + 2 * m + k ≤ c + 1 + 2 * m' := by have := g8 k hkp; omega
  exact z_wid (z' := c + 1 + 2 * m') hwid (by omega) (kk sh' _ m' g1 g2 g3 g4 g5 g6 g7)
theorem z_apC {x : Int} {k0 : Nat} (hlk : z_lk M.1.cls idx (mJ4_append_cf468 k0)) (hrm : z_rm M (mJ4_append_cf468 k0)) (hd : decode M.2.1 pc = .ok (.invokevirtual idx, 3)) (hb : z_bld sh w a m t) (hx : 0 ≤ x ∧ x < 128) (hm : m ≤ 8000 ∧ t.length + 3 ≤ 4000) (hsl : sh.length < 900) (hlo : z_cls0 sh) (hLv : z_lv sh.length L) (hSv : z_sv1 sh.length rest) (hw : z_wds rest ≤ 8)
    (hcc : ((c : Int) + 1 + 2 * max (m : Int) (2 * ((t.length : Int) + 1) + 2) ≤ M.2.2.2.2.cells) ∧ M.2.2.2.2.cells = M.2.2.2.2.slots) (kk : z_apk M n0 c pc L rest sh w Q a m t [x]) : z_Sem M (n0, c + 2 * m) pc L (z_i x :: z_r a :: rest) (sh, w) Q := by
  obtain ⟨v, hav, hs, h1, h3, htm, htx, hta, hbb, h16⟩ := hb
  have hal := z_ltat hs.1
  have hda : z_as [x] := fun b hb => by rw [List.mem_singleton.mp hb]; exact hx
  obtain ⟨k, hkp, hk1, hkc, hk4⟩ := z_kp_ex m ((t.length : Int) + 1)
  refine z_callA (M' := mJ4_append_cf468 k) (vs := [z_r a, z_i x]) (rest := rest) (z_invV (C := RJ4) (As := [z_i x]) zmJ4_append_cf468 znJ4_append_cf468 zsJ4_append_cf468 hlk hrm hd rfl) zwJ4_append_cf468.2.2.2.2 (fun G p s m args meth c H locs hX hP => z_recC (σ := (sh, w)) z_cl10 hs.1 hX hP) rfl (z_ar (z_ai z_a0)) (z_lek rfl) hw hLv hSv (Nat.le_refl _) (by omega) (by show c + 2 * m + k ≤ M.2.2.2.2.cells ∧ c + 2 * m + k ≤ M.2.2.2.2.slots; omega) ?_
  refine t_J4_appendC hs h1 h3 ⟨by omega, by omega⟩ hx (by omega) hk1 hk4 (show sh.length < 1000 by omega) hlo hbb (fun sh' w' v' m' hg => ?_)
  obtain ⟨g1, g2, g3, g4, g5, g6, g7, g8⟩ := z_bld_gr (t2 := [x]) hav hs h1 htx hta hbb h16 htm hda hlo hg
  have hav' : a ≠ v' := (hg.sb hs).2.2.2
  have hmem : z_W (z_W w' a 3 ((t.length : Int) + 1)) v' (t.length : Int) x = z_W (z_put w' v' (t.length : Int) [x]) a 3 ((t.length : Int) + ([x] : List Int).length) := by
    rw [z_W_W hav', z_put_1]
    rfl
  have hwid : c + 2 * m + k ≤ c + 1 + 2 * m' := by have := g8 k hkp; omega
  have g7' : (m' : Int) ≤ max (m : Int) (2 * ((t.length : Int) + 1) + 2) := g7
  refine z_eqw rfl hmem.symm ?_
  exact z_wid (z' := c + 1 + 2 * m') hwid (by omega) (kk sh' _ m' g1 g2 g3 g4 g5 g6 g7)
/-- new StringBuilder() -/
theorem z_newSB {st : List z_V} (hcls : M.1.cls = RL) (hrm : z_rm M (mJ4_init_da8c8 16)) (hd0 : decode M.2.1 pc = .ok (.new 40, 3)) (hd1 : decode M.2.1 (pc + 3) = .ok (.dup, 1)) (hd2 : decode M.2.1 (pc + 4) = .ok (.invokespecial 42, 3)) (hsl : sh.length < 900) (hlo : z_cls0 sh) (hLv : z_lv sh.length L) (hSv : z_sv1 sh.length st) (hw : z_wds st ≤ 7) (hcc : c + 32 ≤ M.2.2.2.2.cells ∧ M.2.2.2.2.cells = M.2.2.2.2.slots)
    (kk : ∀ w' : z_Mm, z_bld (sh ++ [z_sbc (sh.length + 1), .inr (.inl (2, 16))]) w' sh.length 16 [] → z_frb sh.length sh (sh ++ [z_sbc (sh.length + 1), .inr (.inl (2, 16))]) w w' → z_cls0 (sh ++ [z_sbc (sh.length + 1), .inr (.inl (2, 16))]) → z_Sem M (n0, c + 2 * 16) (pc + 7) L (z_r sh.length :: st) (sh ++ [z_sbc (sh.length + 1), .inr (.inl (2, 16))], w') Q) : z_Sem M (n0, c) pc L st (sh, w) Q := by
  have hlen : (sh ++ [z_sb0]).length = sh.length + 1 := by rw [List.length_append]; rfl
  have hlo1 : z_cls0 (sh ++ [z_sb0]) := by
    unfold z_cls0
    rw [List.length_append]
    refine z_cl1_app hlo (fun c hc => ?_)
    rw [List.mem_singleton.mp hc]
    exact (fun o ho a ha => by
      simp only [List.mem_cons, List.not_mem_nil, or_false] at ho
      rcases ho with rfl | rfl | rfl | rfl <;> cases ha)
  have hlk : z_lk M.1.cls 42 (mJ4_init_da8c8 16) := by rw [hcls]; exact zlRL_42
  have hcl : Cond.classLink M.1.cls 40 RJ4 ∈ z_tb := by rw [hcls]; exact zcRL_40
  refine z_new z_k10 hcl ziRJ4 zIRJ4 z_flJ4 (show sh.length < 1000 by omega) hlo hLv hSv (by decide) ⟨by show c + 4 ≤ _; omega, by show c + 4 ≤ _; omega⟩ hd0 ?_
  refine z_gennw (fun w1 hw1 hw2 => ?_)
  refine z_dup hd1 rfl ?_
  refine z_callA (M' := mJ4_init_da8c8 16) (vs := [z_r sh.length]) (rest := z_r sh.length :: st) (z_invI (As := []) zmJ4_init_da8c8 znJ4_init_da8c8 rfl rfl hlk hrm hd2 rfl) zwJ4_init_da8c8.2.2.2.2 (fun _ _ _ _ _ _ _ _ _ _ _ => True.intro) rfl (z_ar z_a0) (z_lek rfl) (by show z_wds (z_r sh.length :: st) ≤ 8; unfold z_wds at hw ⊢; rw [List.map_cons, List.sum_cons]; show 1 + _ ≤ 8; omega) (z_lv_le hLv (by show sh.length ≤ (sh ++ [z_sb0]).length; omega)) (fun q hq => by
    rcases List.mem_cons.mp hq with rfl | h
    · exact Or.inl (by show sh.length < (sh ++ [z_sb0]).length; omega)
    · exact z_vv_le (hSv q h) (by show sh.length ≤ (sh ++ [z_sb0]).length; omega)) (Nat.le_refl _) (by omega) (by show c + 4 + 16 ≤ _ ∧ c + 4 + 16 ≤ _; omega) ?_
  refine t_J4_init16 (a := sh.length) z_lastat (Nat.le_refl _) (by rw [hlen]; omega) hlo1 (fun w' g1 g2 g3 g4 => ?_)
  rw [hlen] at g1 g4
  rw [hlen]
  have hsh : (sh ++ [z_sb0]).set sh.length (z_sbc (sh.length + 1)) ++ [(.inr (.inl (2, 16)) : z_C)] = sh ++ [z_sbc (sh.length + 1), .inr (.inl (2, 16))] := by
    rw [List.set_append_right _ _ (Nat.le_refl _), Nat.sub_self, List.append_assoc]
    rfl
  have hlo2 := z_cls0_set (ci := 10) (a := sh.length) (v := sh.length + 1) (m := 16) hlo1 (by omega)
  rw [hsh] at hlo2 ⊢
  refine z_wid (z' := c + 2 * 16) (by show c + 4 + 16 ≤ c + 2 * 16; omega) (by omega) (kk w' ⟨sh.length + 1, by omega, ⟨by simp, by rw [List.getElem?_append_right (by omega)]; simp⟩, g2, ?_, by decide, (fun k b hk => (by cases hk)), (fun b hb => (by cases hb)), (fun j j0 j1 => (by rw [g1]; decide)), Nat.le_refl _⟩ (fun b hb => ⟨?_, ?_⟩) hlo2)
  · rw [g3 3 (by decide), hw1]; rfl
  · rw [List.getElem?_append_left hb]
  · rw [g4 b (by omega) (by omega), hw2 b (by omega)]
/-- toString() -/
theorem z_toS {k0 : Nat} (hlk : z_lk M.1.cls idx (mJ4_toString_0e30d k0)) (hrm : z_rm M (mJ4_toString_0e30d k0)) (hd : decode M.2.1 pc = .ok (.invokevirtual idx, 3)) (hb : z_bld sh w a m t) (ht1 : 1 ≤ t.length) (hm : m ≤ 8000) (hsl : sh.length < 900) (hlo : z_cls0 sh) (hLv : z_lv sh.length L) (hSv : z_sv1 sh.length rest) (hw : z_wds rest ≤ 8) (hcc : c + (t.length + 4) ≤ M.2.2.2.2.cells ∧ M.2.2.2.2.cells = M.2.2.2.2.slots)
    (kk : ∀ w' : z_Mm, z_isx (sh ++ [z_stc (sh.length + 1), .inr (.inl (2, t.length))]) w' sh.length t → (∀ b : Nat, b < sh.length → w' b = w b) → z_cls0 (sh ++ [z_stc (sh.length + 1), .inr (.inl (2, t.length))]) → z_Sem M (n0, c + (t.length + 4)) (pc + 3) L (z_r sh.length :: rest) (sh ++ [z_stc (sh.length + 1), .inr (.inl (2, t.length))], w') Q) : z_Sem M (n0, c) pc L (z_r a :: rest) (sh, w) Q := by
  obtain ⟨v, hav, hs, h1, h3, htm, htx, hta, hbb, h16⟩ := hb
  have hlo2 : z_cls0 (sh ++ [z_stc (sh.length + 1), .inr (.inl (2, t.length))]) := by
    unfold z_cls0
    rw [List.length_append]
    refine z_cl1_app hlo (fun c hc => ?_)
    simp only [List.mem_cons, List.not_mem_nil, or_false] at hc
    rcases hc with rfl | rfl
    · intro o ho b hb
      simp only [List.mem_cons, List.not_mem_nil, or_false] at ho
      rcases ho with rfl | rfl | rfl | rfl
      · have : sh.length + 1 = b := by injection hb with h3; injection h3
        exact Or.inl (by rw [← this]; show sh.length + 1 < sh.length + 2; omega)
      · cases hb
      · cases hb
      · cases hb
    · exact z_vc_row
  refine z_callA (M' := mJ4_toString_0e30d (t.length + 4)) (vs := [z_r a]) (rest := rest) (z_invV (C := RJ4) (As := []) zmJ4_toString_0e30d znJ4_toString_0e30d zsJ4_toString_0e30d hlk hrm hd rfl) zwJ4_toString_0e30d.2.2.2.2 (fun G p s m args meth c H locs hX hP => z_recC (σ := (sh, w)) z_cl10 hs.1 hX hP) rfl (z_ar z_a0) (z_lek rfl) hw hLv hSv (Nat.le_refl _) (by omega) (by show c + (t.length + 4) ≤ _ ∧ c + (t.length + 4) ≤ _; omega) ?_
  exact t_J4_toString hs h1 h3 ht1 htm (by omega) (Nat.le_refl _) (show sh.length < 999 by omega) hlo hbb htx hta (fun w' g1 g2 => kk w' g1 g2 hlo2)
end ZBUILD
