/-! SETUP, walked: its builder -/
theorem z_bld.mo {sh sh' : List z_C} {w w' : z_Mm} {a m : Nat} {t : List Int} (h : z_bld sh w a m t) (f : ∀ b : Nat, b < sh.length → sh'[b]? = sh[b]? ∧ w' b = w b) : z_bld sh' w' a m t := by
  obtain ⟨v, h1, h2, h3, h4, h5, h6, h7, h8, h9⟩ := h
  have la := z_ltat h2.1
  have lv := z_ltat h2.2
  refine ⟨v, h1, ⟨by rw [(f a la).1]; exact h2.1, by rw [(f v lv).1]; exact h2.2⟩, by rw [(f a la).2]; exact h3, by rw [(f a la).2]; exact h4, h5, z_tx.cg h6 (f v lv).2, h7, fun j j0 j1 => by rw [(f v lv).2]; exact h8 j j0 j1, h9⟩
/-- the builder of setup, at 165; times at 164 -/
def z_mb (sh0 : List z_C) (w0 : z_Mm) (x : Int → Int) (B : Nat) (sh : List z_C) (w : z_Mm) (m : Nat) (t : List Int) : Prop := z_bld sh w 165 m t ∧ (∀ b : Nat, b < 164 → sh[b]? = sh0[b]?) ∧ sh[164]? = some (.inr (.inl (0, 10))) ∧ w 164 = x ∧ (∀ a : Nat, 1 ≤ a → a < 164 → w a = w0 a) ∧ z_cls0 sh ∧ 166 < sh.length ∧ m ≤ 2 * t.length + 20 ∧ 16 * sh.length ≤ 16 * B + m
section ZMB
variable {pc c m B : Nat} {L : List (Nat × z_V)} {sh sh0 : List z_C} {w w0 : z_Mm} {Q : Option z_V → z_S → Prop} {x : Int → Int} {t t2 : List Int}
theorem z_mb.app {sh' : List z_C} {w' : z_Mm} {m' : Nat} (h : z_mb sh0 w0 x B sh w m t) (g1 : z_bld sh' w' 165 m' (t ++ t2)) (g2 : z_frb 165 sh sh' w w') (g3 : z_cls0 sh') (g4 : sh.length ≤ sh'.length) (g5 : 16 * sh'.length + m ≤ 16 * sh.length + m') (g7 : (m' : Int) ≤ max (m : Int) (2 * ((t.length : Int) + t2.length) + 2)) : z_mb sh0 w0 x B sh' w' m' (t ++ t2) := by
  obtain ⟨h1, h2, h3, h4, h5, h6, h7, h8, h9⟩ := h
  refine ⟨g1, fun b hb => (g2 b (by omega)).1.trans (h2 b hb), (g2 164 (by decide)).1.trans h3, (g2 164 (by decide)).2.trans h4, fun a a1 a2 => (g2 a (by omega)).2.trans (h5 a a1 a2), g3, by omega, ?_, by omega⟩
  rw [List.length_append]
  have := z_mxc (m : Int) (2 * ((t.length : Int) + t2.length) + 2)
  omega
theorem z_mb.cg {w' : z_Mm} (h : z_mb sh0 w0 x B sh w m t) (f : ∀ a : Nat, a ≠ 0 → w' a = w a) : z_mb sh0 w0 x B sh w' m t := by
  obtain ⟨h1, h2, h3, h4, h5, h6, h7, h8, h9⟩ := h
  exact ⟨h1.cg (fun b hb => f b (by omega)), h2, h3, (f 164 (by decide)).trans h4, fun a a1 a2 => (f a (by omega)).trans (h5 a a1 a2), h6, h7, h8, h9⟩
theorem z_mb.tm {i y : Int} (h : z_mb sh0 w0 x B sh w m t) : z_mb sh0 w0 (fun j => if j = i then y else x j) B sh (z_W w 164 i y) m t := by
  obtain ⟨h1, h2, h3, h4, h5, h6, h7, h8, h9⟩ := h
  refine ⟨h1.cg (fun b hb => z_Wf (by omega)), h2, h3, ?_, fun a a1 a2 => (z_Wf (by omega)).trans (h5 a a1 a2), h6, h7, h8, h9⟩
  funext j
  by_cases q : j = i
  · rw [if_pos q, q, z_W_same]
  · rw [if_neg q, z_W_ne (Or.inr q), h4]
theorem z_mb.mo {sh' : List z_C} {w' : z_Mm} {B' : Nat} (h : z_mb sh0 w0 x B sh w m t) (f : ∀ b : Nat, b < sh.length → sh'[b]? = sh[b]? ∧ w' b = w b) (hc : z_cls0 sh') (hl : sh.length ≤ sh'.length ∧ sh'.length ≤ sh.length + B') : z_mb sh0 w0 x (B + B') sh' w' m t := by
  obtain ⟨h1, h2, h3, h4, h5, h6, h7, h8, h9⟩ := h
  refine ⟨h1.mo f, fun b hb => (f b (by omega)).1.trans (h2 b hb), (f 164 (by omega)).1.trans h3, (f 164 (by omega)).2.trans h4, fun a a1 a2 => (f a (by omega)).2.trans (h5 a a1 a2), hc, by omega, h8, by omega⟩
theorem z_sv165 (h : 166 < sh.length) : z_sv1 sh.length [z_r 165] := fun q hq => by rw [List.mem_singleton.mp hq]; exact Or.inl (by omega)
theorem z_gS {r : Nat} (hd : decode cL_setup pc = .ok (.invokevirtual 76, 3)) (h : z_mb sh0 w0 x B sh w m t) (hx : z_isx sh w r t2) (hl : t.length + t2.length ≤ 400) (hc : c ≤ 1500 ∧ B ≤ 600) (hLv : z_lv 166 L) (kk : ∀ (sh' : List z_C) (w' : z_Mm) (m' : Nat), z_mb sh0 w0 x B sh' w' m' (t ++ t2) → z_Sem mLset (164, c + 1 + 2 * m') (pc + 3) L [z_r 165] (sh', w') Q) : z_Sem mLset (164, c + 2 * m) pc L [z_r r, z_r 165] (sh, w) Q := by
  have h0 := h
  obtain ⟨h1, h2, h3, h4, h5, h6, h7, h8, h9⟩ := h
  have hmx := z_mxc (m : Int) (2 * ((t.length : Int) + t2.length) + 2)
  refine z_apS (k0 := 0) (rest := []) zlRL_76 ⟨z_lek rfl, z_lek rfl⟩ hd h1 hx (by omega) ⟨by omega, by omega⟩ (by omega) h6 (z_lv_le hLv (by omega)) (fun q hq => by cases hq) (z_lek rfl) ⟨by show (c : Int) + 1 + 2 * max (m : Int) (2 * ((t.length : Int) + t2.length) + 2) ≤ ((4096 : Nat) : Int); omega, rfl⟩ (fun sh' w' m' g1 g2 g3 g4 g5 g6 g7 => kk sh' w' m' (h0.app g1 g2 g3 g4 g5 g7))
theorem z_gC {y : Int} (hd : decode cL_setup pc = .ok (.invokevirtual 55, 3)) (h : z_mb sh0 w0 x B sh w m t) (hy : 0 ≤ y ∧ y < 128) (hl : t.length + 1 ≤ 400) (hc : c ≤ 1500 ∧ B ≤ 600) (hLv : z_lv 166 L) (kk : ∀ (sh' : List z_C) (w' : z_Mm) (m' : Nat), z_mb sh0 w0 x B sh' w' m' (t ++ [y]) → z_Sem mLset (164, c + 1 + 2 * m') (pc + 3) L [z_r 165] (sh', w') Q) : z_Sem mLset (164, c + 2 * m) pc L [z_i y, z_r 165] (sh, w) Q := by
  have h0 := h
  obtain ⟨h1, h2, h3, h4, h5, h6, h7, h8, h9⟩ := h
  have hmx := z_mxc (m : Int) (2 * ((t.length : Int) + 1) + 2)
  refine z_apC (k0 := 0) (rest := []) zlRL_55 ⟨z_lek rfl, z_lek rfl⟩ hd h1 hy ⟨by omega, by omega⟩ (by omega) h6 (z_lv_le hLv (by omega)) (fun q hq => by cases hq) (z_lek rfl) ⟨by show (c : Int) + 1 + 2 * max (m : Int) (2 * ((t.length : Int) + 1) + 2) ≤ ((4096 : Nat) : Int); omega, rfl⟩ (fun sh' w' m' g1 g2 g3 g4 g5 g6 g7 => kk sh' w' m' (h0.app g1 g2 g3 g4 g5 g7))
theorem z_gI {y : Int} (hd : decode cL_setup pc = .ok (.invokevirtual 71, 3)) (h : z_mb sh0 w0 x B sh w m t) (hy : 0 ≤ y ∧ y ≤ 99) (hl : t.length + 3 ≤ 400) (hc : c ≤ 1500 ∧ B ≤ 600) (hLv : z_lv 166 L) (kk : ∀ (sh' : List z_C) (w' : z_Mm) (m' : Nat), z_mb sh0 w0 x B sh' w' m' (t ++ z_dl y) → z_Sem mLset (164, c + 1 + 2 * m') (pc + 3) L [z_r 165] (sh', w') Q) : z_Sem mLset (164, c + 2 * m) pc L [z_i y, z_r 165] (sh, w) Q := by
  have h0 := h
  obtain ⟨h1, h2, h3, h4, h5, h6, h7, h8, h9⟩ := h
  have hdl := z_dl_len y
  have hmx := z_mxc (m : Int) (2 * ((t.length : Int) + (z_dl y).length) + 2)
  refine z_apI (k0 := 0) (rest := []) zlRL_71 ⟨z_lek rfl, z_lek rfl⟩ hd h1 hy ⟨by omega, by omega⟩ (by omega) h6 (z_lv_le hLv (by omega)) (fun q hq => by cases hq) (z_lek rfl) ⟨by show (c : Int) + 1 + 2 * max (m : Int) (2 * ((t.length : Int) + (z_dl y).length) + 2) ≤ ((4096 : Nat) : Int); omega, rfl⟩ (fun sh' w' m' g1 g2 g3 g4 g5 g6 g7 => kk sh' w' m' (h0.app g1 g2 g3 g4 g5 g7))
/-- a draw -/
theorem z_gD {rest : List z_V} {nz : Nat × Nat} (hd : decode cL_setup pc = .ok (.invokestatic 62, 3)) (hs0 : sh0[0]? = some (.inr (.inl (0, 8)))) (h : z_mb sh0 w0 x B sh w m t) (hw : z_wds rest ≤ 8) (kk : ∀ (y : Int) (w' : z_Mm), 0 ≤ y ∧ y ≤ 32767 → z_mb sh0 w0 x B sh w' m t → z_Sem mLset nz (pc + 3) L (z_i y :: rest) (sh, w') Q) : z_Sem mLset nz pc L (z_r 0 :: rest) (sh, w) Q :=
  z_goD (a1 := 0) (rest := rest) rfl ⟨z_lek rfl, z_lek rfl⟩ hd (by rw [h.2.1 0 (by decide)]; exact hs0) rfl hw (fun y w' hy f => kk y w' hy (h.cg f))
/-- a name of one letter, as a String -/
theorem z_gN {p i j : Nat} {e : Int} (hd0 : decode cL_setup p = .ok (.new 40, 3)) (hd1 : decode cL_setup (p + 3) = .ok (.dup, 1)) (hd2 : decode cL_setup (p + 4) = .ok (.invokespecial 42, 3)) (hd3 : decode cL_setup (p + 7) = .ok (.ldc 91, 2)) (hd4 : decode cL_setup (p + 9) = .ok (.invokevirtual 76, 3)) (hd5 : decode cL_setup (p + 12) = .ok (.bipush 97, 2)) (hd6 : decode cL_setup (p + 14) = .ok (.iload i, 2)) (hd7 : decode cL_setup (p + 16) = .ok (.iadd, 1)) (hd8 : decode cL_setup (p + 17) = .ok (.i2c, 1)) (hd9 : decode cL_setup (p + 18) = .ok (.invokevirtual 55, 3)) (hda : decode cL_setup (p + 21) = .ok (.invokevirtual 58, 3))
    (hL : L[j]? = some (i, z_i e)) (he : 1 ≤ e ∧ e < 10) (h : z_mb sh0 w0 x B sh w m t) (hl : t.length ≤ 400) (hc : c ≤ 1500 ∧ B ≤ 600) (hLv : z_lv 166 L) (kk : ∀ (sh' : List z_C) (w' : z_Mm) (r : Nat), z_mb sh0 w0 x (B + 4) sh' w' m t → z_isx sh' w' r (z_nl (e + 1)) → z_Sem mLset (164, c + 40 + 2 * m) (p + 24) L [z_r r, z_r 165] (sh', w') Q) : z_Sem mLset (164, c + 2 * m) p L [z_r 165] (sh, w) Q := by
  have h0 := h
  obtain ⟨h1, h2, h3, h4, h5, h6, h7, h8, h9⟩ := h
  refine z_newSB (c := c + 2 * m) rfl ⟨z_lek rfl, z_lek rfl⟩ hd0 hd1 hd2 (by omega) h6 (z_lv_le hLv (by omega)) (z_sv165 h7) (z_lek rfl) ⟨by show c + 2 * m + 32 ≤ 4096; omega, rfl⟩ (fun w1 g1 g2 g3 => ?_)
  generalize hs1 : sh ++ [z_sbc (sh.length + 1), (.inr (.inl (2, 16)) : z_C)] = sh1 at g1 g2 g3
  have l1 : sh1.length = sh.length + 2 := by rw [← hs1, List.length_append]; rfl
  refine z_ldcS (i := 28) rfl hd3 ?_
  refine z_apS (k0 := 0) (c := c + 2 * m) (rest := [z_r 165]) (t2 := z_str 28) zlRL_76 ⟨z_lek rfl, z_lek rfl⟩ hd4 g1 (z_isx_c (by decide)) (by rw [z_strL.1.2.2.2.2.2]; decide) ⟨by decide, by rw [z_strL.1.2.2.2.2.2]; decide⟩ (by omega) g3 (z_lv_le hLv (by omega)) (z_sv165 (by omega)) (z_lek rfl) ⟨?_, rfl⟩ (fun sh2 w2 m2 k1 k2 k3 k4 k5 k6 k7 => ?_)
  · rw [z_strL.1.2.2.2.2.2]
    show ((c + 2 * m : Nat) : Int) + 1 + 2 * max ((16 : Nat) : Int) (2 * (((0 : Nat) : Int) + ((0 : Nat) : Int)) + 2) ≤ ((4096 : Nat) : Int)
    rw [show max ((16 : Nat) : Int) (2 * (((0 : Nat) : Int) + ((0 : Nat) : Int)) + 2) = 16 by decide]
    omega
  rw [z_strL.1.2.2.2.2.2] at k1 k7
  have k1 : z_bld sh2 w2 sh.length m2 [] := k1
  have hm2 : m2 = 16 := by
    have k7' : (m2 : Int) ≤ max ((16 : Nat) : Int) (2 * (((0 : Nat) : Int) + ((0 : Nat) : Int)) + 2) := k7
    rw [show max ((16 : Nat) : Int) (2 * (((0 : Nat) : Int) + ((0 : Nat) : Int)) + 2) = 16 by decide] at k7'
    omega
  subst hm2
  refine z_bipush hd5 (by decide) (by decide) ?_
  refine z_iload j hd6 hL ?_
  refine z_iadd hd7 ⟨by omega, by omega⟩ ?_
  refine z_i2c hd8 ?_
  rw [z_i2c' ⟨by omega, by omega⟩]
  refine z_apC (k0 := 0) (c := c + 2 * m + 1) (rest := [z_r 165]) zlRL_55 ⟨z_lek rfl, z_lek rfl⟩ hd9 k1 ⟨by omega, by omega⟩ ⟨by decide, by decide⟩ (by omega) k3 (z_lv_le hLv (by omega)) (z_sv165 (by omega)) (z_lek rfl) ⟨?_, rfl⟩ (fun sh3 w4 m3 p1 p2 p3 p4 p5 p6 p7 => ?_)
  · show ((c + 2 * m + 1 : Nat) : Int) + 1 + 2 * max ((16 : Nat) : Int) (2 * (((0 : Nat) : Int) + 1) + 2) ≤ ((4096 : Nat) : Int)
    rw [show max ((16 : Nat) : Int) (2 * (((0 : Nat) : Int) + 1) + 2) = 16 by decide]
    omega
  have p1 : z_bld sh3 w4 sh.length m3 [97 + e] := p1
  have hm3 : m3 = 16 := by
    have p7' : (m3 : Int) ≤ max ((16 : Nat) : Int) (2 * (((0 : Nat) : Int) + ((1 : Nat) : Int)) + 2) := p7
    rw [show max ((16 : Nat) : Int) (2 * (((0 : Nat) : Int) + ((1 : Nat) : Int)) + 2) = 16 by decide] at p7'
    omega
  subst hm3
  refine z_toS (k0 := 0) (rest := [z_r 165]) zlRL_58 ⟨z_lek rfl, z_lek rfl⟩ hda p1 (z_lek rfl) (by decide) (by omega) p3 (z_lv_le hLv (by omega)) (z_sv165 (by omega)) (z_lek rfl) ⟨by show c + 2 * m + 1 + 1 + 2 * 16 + (1 + 4) ≤ 4096; omega, rfl⟩ (fun w5 hx f5 p8 => ?_)
  generalize hs4 : sh3 ++ [z_stc (sh3.length + 1), (.inr (.inl (2, [97 + e].length)) : z_C)] = sh4 at hx p8
  have l4 : sh4.length = sh3.length + 2 := by rw [← hs4, List.length_append]; rfl
  have hall : ∀ b : Nat, b < sh.length → sh4[b]? = sh[b]? ∧ w5 b = w b := fun b hb => ⟨by rw [← hs4, List.getElem?_append_left (by omega), (p2 b hb).1, (k2 b hb).1, (g2 b hb).1], by rw [f5 b (by omega), (p2 b hb).2, (k2 b hb).2, (g2 b hb).2]⟩
  rw [← z_nl1' he] at hx
  exact z_wid (z' := c + 40 + 2 * m) (by show c + 2 * m + 1 + 1 + 2 * 16 + (1 + 4) ≤ c + 40 + 2 * m; omega) ⟨by show c + 40 + 2 * m ≤ 4096; omega, by show c + 40 + 2 * m ≤ 4096; omega⟩ (kk sh4 w5 sh3.length (h0.mo hall p8 ⟨by omega, by omega⟩) hx)
end ZMB
