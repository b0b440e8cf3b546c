/-! TEXTS: bytes written one behind the other -/
def z_nlp (v : Int) : Nat → List Int
  | 0 => []
  | k + 1 => z_nlp v k ++ [z_lof v (z_lco v - 1 - (k : Int)) + 96]
def z_nl (v : Int) : List Int := z_nlp v (z_lco v).toNat
theorem z_nlp_len (v : Int) : ∀ k : Nat, (z_nlp v k).length = k
  | 0 => rfl
  | k + 1 => by rw [z_nlp, List.length_append, z_nlp_len v k]; rfl
theorem z_nl_len (v : Int) : ((z_nl v).length : Int) = z_lco v ∧ (z_nl v).length ≤ 5 := by
  have := z_lco_R v
  unfold z_nl
  rw [z_nlp_len]
  exact ⟨by omega, by omega⟩
def z_strp (s : Nat) : Nat → List Int
  | 0 => []
  | k + 1 => z_strp s k ++ [z_chr s (k : Int)]
def z_str (s : Nat) : List Int := z_strp s (z_len.getD s 0)
theorem z_str_16 : z_str 16 = z_nl 5572 ++ [32] := by decide +kernel
theorem z_str_17 : z_str 17 = z_nl 5969364 ++ [32] := by decide +kernel
theorem z_str_18 : z_str 18 = z_nl 16686 ++ [32] := by decide +kernel
theorem z_str_19 : z_str 19 = z_nl 7216 ++ [32] := by decide +kernel
theorem z_str_20 : z_str 20 = [32] ++ z_nl 441972 ++ [32] := by decide +kernel
theorem z_str_21 : z_str 21 = [32] ++ z_nl 12748404 ++ [32] := by decide +kernel
theorem z_str_22 : z_str 22 = [32] ++ z_nl 15558 := by decide +kernel
theorem z_str_len : (z_str 16).length = 4 ∧ (z_str 17).length = 6 ∧ (z_str 18).length = 4 ∧ (z_str 19).length = 4 ∧ (z_str 20).length = 6 ∧ (z_str 21).length = 7 ∧ (z_str 22).length = 4 := by decide +kernel
def z_dl (n : Int) : List Int := if n < 10 then [48 + n] else if n < 100 then [48 + n / 10, 48 + n % 10] else [48 + n / 100, 48 + n / 10 % 10, 48 + n % 10]
theorem z_dl_len (n : Int) : (z_dl n).length ≤ 3 := by
  unfold z_dl
  split
  · show 1 ≤ 3; omega
  · split
    · show 2 ≤ 3; omega
    · show 3 ≤ 3; omega
/-- the class's text -/
def z_tcx (w : z_Mm) (L : List Int) : Prop := w 159 1 = (L.length : Int) ∧ ∀ (k : Nat) (b : Int), L[k]? = some b → w 160 (k : Int) = b
/-- the reference's text -/
def z_trx (w : z_Mm) (L : List Int) : Prop := w 161 28 = (L.length : Int) ∧ ∀ (k : Nat) (b : Int), L[k]? = some b → w 176 (k : Int) = b
def z_fcx (w w' : z_Mm) : Prop := ∀ a : Nat, a ≠ 159 → a ≠ 160 → w' a = w a
theorem z_fcx.rf {w : z_Mm} : z_fcx w w := fun _ _ _ => rfl
theorem z_fcx.trans {w w1 w2 : z_Mm} (h1 : z_fcx w w1) (h2 : z_fcx w1 w2) : z_fcx w w2 := fun a a1 a2 => (h2 a a1 a2).trans (h1 a a1 a2)
def z_frx (w w' : z_Mm) : Prop := (∀ a : Nat, a ≠ 161 → a ≠ 176 → w' a = w a) ∧ ∀ j : Int, j ≠ 28 → w' 161 j = w 161 j
theorem z_frx.rf {w : z_Mm} : z_frx w w := ⟨fun _ _ _ => rfl, fun _ _ => rfl⟩
theorem z_frx.trans {w w1 w2 : z_Mm} (h1 : z_frx w w1) (h2 : z_frx w1 w2) : z_frx w w2 := ⟨fun a a1 a2 => (h2.1 a a1 a2).trans (h1.1 a a1 a2), fun j hj => (h2.2 j hj).trans (h1.2 j hj)⟩
theorem z_snoc {L : List Int} {b c : Int} {k : Nat} (h : (L ++ [b])[k]? = some c) : (k < L.length ∧ L[k]? = some c) ∨ (k = L.length ∧ c = b) := by
  by_cases q : k < L.length
  · rw [List.getElem?_append_left q] at h
    exact Or.inl ⟨q, h⟩
  · rw [List.getElem?_append_right (by omega)] at h
    by_cases e : k = L.length
    · subst e
      rw [Nat.sub_self] at h
      cases h
      exact Or.inr ⟨rfl, rfl⟩
    · have : k - L.length = (k - L.length - 1) + 1 := by omega
      rw [this] at h
      cases h
theorem c_put {sh : List z_C} {w : z_Mm} {L : List Int} {b : Int} {K : z_Mm → Prop} (hT : z_isTG sh 0) (h : z_tcx w L) (hl : L.length < 1024) (k : ∀ w', z_tcx w' (L ++ [b]) → z_fcx w w' → K w') : z_CV mX7_put [z_r 159, z_i b] sh w K := by
  have hX : z_isTex sh 159 := hT.2.2.2.2.2.2.2.2
  obtain ⟨h1, h2⟩ := h
  refine z_CVi (t_X7_put hX ⟨fun c => absurd c (by omega), fun _ => ⟨⟨by omega, by omega⟩, fun w2 e2 => ?_⟩⟩)
  have e21 : w2 159 1 = (L.length : Int) := by rw [e2, z_Wf (by omega)]; exact h1
  rw [e21]
  refine ⟨⟨by omega, by omega⟩, fun w5 e5 => ⟨_, rfl, rfl, k w5 ⟨?_, fun j c hc => ?_⟩ (fun a a1 a2 => by rw [e5, z_Wf a1, e2, z_Wf a2])⟩⟩
  · rw [e5, z_W_same, List.length_append]
    show _ = ((L.length + 1 : Nat) : Int)
    omega
  · rw [e5, z_Wf (by omega), e2, h1]
    rcases z_snoc hc with ⟨q1, q2⟩ | ⟨q1, q2⟩
    · rw [z_W_ne (Or.inr (by omega))]; exact h2 j c q2
    · rw [q1, z_W_same, q2]
theorem c_name {sh : List z_C} {w : z_Mm} {L : List Int} {e v : Int} {K : z_Mm → Prop} (hT : z_isTG sh 0) (h : z_tcx w L) (hl : L.length + 5 ≤ 1024) (e0 : 0 ≤ e ∧ e < 10) (hn : z_nm w 1 e v) (k : ∀ w', z_tcx w' (L ++ z_nl v) → z_fcx w w' → K w') : z_CV mX7_putName [z_r 159, z_r 1, z_i e] sh w K := by
  have hX : z_isTex sh 159 := hT.2.2.2.2.2.2.2.2
  have hP : z_isPla sh 1 := hT.2.1
  obtain ⟨q1, q2, q3⟩ := hn.wd
  have rl := z_lco_R v
  refine z_CVi (t_X7_putName hX hP ?_)
  refine z_for (n := z_lco v) (i0 := 0) (fun i u => z_Sem mX7_putName (sh.length, 0) 2 [(0, z_r 159), (1, z_r 1), (2, z_i e), (3, z_i i)] [] (sh, u) _) (fun i u => z_tcx u (L ++ z_nlp v i.toNat) ∧ z_fcx w u) (by omega) ⟨by rw [show (0 : Int).toNat = 0 from rfl, z_nlp, List.append_nil]; exact h, z_fcx.rf⟩ ?_ ?_
  · rintro u ⟨uh, uf⟩
    have u3 : u (1 + 2) e = z_lco v := by rw [uf (1 + 2) (by omega) (by omega)]; exact q2
    exact t_X7_putName_2 hX hP ⟨e0, fun _ => ⟨_, rfl, rfl, k u uh uf⟩, fun c => absurd (Int.le_of_eq u3) c⟩
  · rintro i u i0 i1 ⟨uh, uf⟩ kk
    have u3 : u (1 + 2) e = z_lco v := by rw [uf (1 + 2) (by omega) (by omega)]; exact q2
    have u2 : f_X3_letterOf u 1 e i = z_lof v (z_lco v - 1 - i) + 96 := by
      unfold f_X3_letterOf
      rw [uf (1 + 1) (by omega) (by omega)]
      exact (q3 i i0 i1).1
    refine t_X7_putName_2 hX hP ⟨e0, fun c => absurd c (by rw [u3]; omega), fun _ => ⟨⟨⟨by omega, by omega⟩, ⟨by omega, by omega⟩, ⟨by omega, by omega⟩, True.intro⟩, ?_⟩⟩
    rw [u2]
    refine c_put hT uh (by rw [List.length_append, z_nlp_len]; omega) (fun u' h' f' => ⟨⟨by omega, by omega⟩, kk u' ⟨?_, uf.trans f'⟩⟩)
    rw [show (i + 1).toNat = i.toNat + 1 by omega, z_nlp, ← List.append_assoc, show ((i.toNat : Nat) : Int) = i by omega]
    exact h'
theorem z_strp_len (s : Nat) : ∀ k : Nat, (z_strp s k).length = k
  | 0 => rfl
  | k + 1 => by rw [z_strp, List.length_append, z_strp_len s k]; rfl
theorem c_word {sh : List z_C} {w : z_Mm} {L : List Int} {s : Nat} {K : z_Mm → Prop} (hT : z_isTG sh 0) (hs : s < 35) (h : z_tcx w L) (hl : L.length + 7 ≤ 1024) (k : ∀ w', z_tcx w' (L ++ z_str s) → z_fcx w w' → K w') : z_CV mX7_putWord [z_r 159, z_r (1001 + s)] sh w K := by
  have hX : z_isTex sh 159 := hT.2.2.2.2.2.2.2.2
  have h7 := z_len7 s hs
  refine z_CVi (t_X7_putWord hX hs ?_)
  refine z_for (n := ((z_len.getD s 0 : Nat) : Int)) (i0 := 0) (fun i u => z_Sem mX7_putWord (sh.length, 0) 2 [(0, z_r 159), (1, z_r (1001 + s)), (2, z_i i)] [] (sh, u) _) (fun i u => z_tcx u (L ++ z_strp s i.toNat) ∧ z_fcx w u) (by omega) ⟨by rw [show (0 : Int).toNat = 0 from rfl, z_strp, List.append_nil]; exact h, z_fcx.rf⟩ ?_ ?_
  · rintro u ⟨uh, uf⟩
    rw [show (((z_len.getD s 0 : Nat) : Int)).toNat = z_len.getD s 0 from rfl] at uh
    exact t_X7_putWord_2 hX hs ⟨fun _ => ⟨_, rfl, rfl, k u uh uf⟩, fun c => absurd (Int.le_refl _) c⟩
  · rintro i u i0 i1 ⟨uh, uf⟩ kk
    refine t_X7_putWord_2 hX hs ⟨fun c => absurd (show ((z_len.getD s 0 : Nat) : Int) ≤ i from c) (by omega), fun _ => ⟨⟨⟨i0, i1⟩, True.intro⟩, ?_⟩⟩
    refine c_put hT uh (by rw [List.length_append, z_strp_len]; omega) (fun u' h' f' => ⟨⟨by omega, by omega⟩, kk u' ⟨?_, uf.trans f'⟩⟩)
    rw [show (i + 1).toNat = i.toNat + 1 by omega, z_strp, ← List.append_assoc, show ((i.toNat : Nat) : Int) = i by omega]
    exact h'
theorem c_num {sh : List z_C} {w : z_Mm} {L : List Int} {n : Int} {K : z_Mm → Prop} (hT : z_isTG sh 0) (hn : 0 ≤ n ∧ n ≤ 999) (h : z_tcx w L) (hl : L.length + 3 ≤ 1024) (k : ∀ w', z_tcx w' (L ++ z_dl n) → z_fcx w w' → K w') : z_CV mX7_putNumber [z_r 159, z_i n] sh w K := by
  have hX : z_isTex sh 159 := hT.2.2.2.2.2.2.2.2
  have t1 : ∀ x : Int, 0 ≤ x → x.tmod 10 = x % 10 := fun x hx => Int.tmod_eq_emod_of_nonneg hx
  have t2 : n.tdiv 10 = n / 10 := Int.tdiv_eq_ediv_of_nonneg hn.1
  have t3 : n.tdiv 100 = n / 100 := Int.tdiv_eq_ediv_of_nonneg hn.1
  have e1 := t1 n hn.1
  have e2 := t1 (n / 10) (by omega)
  have e3 := t1 (n / 100) (by omega)
  unfold z_dl at k
  refine z_CVi (t_X7_putNumber hX ?_)
  rw [t2, t3, e1, e2, e3]
  refine ⟨fun c => ⟨fun c2 => ?_, fun c2 => ?_⟩, fun c => ?_⟩
  · rw [if_pos c2] at k
    refine ⟨⟨by omega, by omega⟩, c_put hT h (by omega) (fun w4 h4 f4 => ⟨_, rfl, rfl, k w4 ?_ f4⟩)⟩
    rw [show n % 10 = n by omega] at h4
    exact h4
  · rw [if_neg c2, if_pos c] at k
    refine ⟨⟨by omega, by omega⟩, c_put hT h (by omega) (fun w6 h6 f6 => ⟨⟨by omega, by omega⟩, c_put hT h6 (by rw [List.length_append]; show _ + 1 < _; omega) (fun w8 h8 f8 => ⟨_, rfl, rfl, k w8 ?_ (f6.trans f8)⟩)⟩)⟩
    rw [show n / 10 % 10 = n / 10 by omega, List.append_assoc] at h8
    exact h8
  · rw [if_neg (by omega), if_neg c] at k
    refine ⟨⟨by omega, by omega⟩, c_put hT h (by omega) (fun w10 h10 f10 => ⟨fun c2 => absurd c2 (by omega), fun _ => ⟨⟨by omega, by omega⟩, c_put hT h10 (by rw [List.length_append]; show _ + 1 < _; omega) (fun w15 h15 f15 => ⟨⟨by omega, by omega⟩, c_put hT h15 (by rw [List.length_append, List.length_append]; show _ + 1 + 1 < _; omega) (fun w17 h17 f17 => ⟨_, rfl, rfl, k w17 ?_ ((f10.trans f15).trans f17)⟩)⟩)⟩⟩)⟩
    rw [show n / 100 % 10 = n / 100 by omega, List.append_assoc, List.append_assoc] at h17
    exact h17
/-! the reference -/
theorem z_lof_R (v j : Int) : 0 ≤ z_lof v j ∧ z_lof v j ≤ 31 := by
  unfold z_lof
  omega
