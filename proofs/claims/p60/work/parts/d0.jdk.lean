/-! STRINGS THAT ARE MADE, AND BUILDERS: cells -/
def z_isSt (sh : List z_C) (a v n : Nat) : Prop := sh[a]? = some (.inl (9, [some (some v), none, none, none])) ∧ sh[v]? = some (.inr (.inl (2, n)))
def z_isSb (sh : List z_C) (a v m : Nat) : Prop := sh[a]? = some (.inl (10, [some (some v), none, none, none])) ∧ sh[v]? = some (.inr (.inl (2, m)))
theorem z_ltk {a b : Nat} (h : Nat.blt a b = true) : a < b := Nat.le_of_ble_eq_true h
theorem z_lek {a b : Nat} (h : Nat.ble a b = true) : a ≤ b := Nat.le_of_ble_eq_true h
/-- letters below 128 -/
def z_as (t : List Int) : Prop := ∀ b ∈ t, 0 ≤ b ∧ b < 128
/-- bytes of a row -/
def z_tx (w : z_Mm) (v : Nat) (t : List Int) : Prop := ∀ (k : Nat) (b : Int), t[k]? = some b → w v (k : Int) = b
theorem z_tx.at {w : z_Mm} {v : Nat} {t : List Int} (h : z_tx w v t) {k : Nat} (hk : k < t.length) : w v (k : Int) = t[k] := h k _ (List.getElem?_eq_getElem hk)
/-- a String: a constant or a made one -/
def z_isx (sh : List z_C) (w : z_Mm) (x : Nat) (t : List Int) : Prop := z_as t ∧ ((∃ s0 : Nat, s0 < 35 ∧ x = 1001 + s0 ∧ t = z_str s0) ∨ ∃ v : Nat, z_isSt sh x v t.length ∧ w x 1 = 0 ∧ z_tx w v t)
theorem z_str_at : ∀ s0 : Nat, s0 < 35 → z_as (z_str s0) := by
  intro s0 h
  have key : ∀ s0 : Nat, s0 < 35 → (z_str s0).all (fun b => decide (0 ≤ b ∧ b < 128)) = true := by decide +kernel
  intro b hb
  have := List.all_eq_true.mp (key s0 h) b hb
  exact of_decide_eq_true this
theorem z_isx_c {sh : List z_C} {w : z_Mm} {s0 : Nat} (h : s0 < 35) : z_isx sh w (1001 + s0) (z_str s0) := ⟨z_str_at s0 h, Or.inl ⟨s0, h, rfl, rfl⟩⟩
theorem z_strpl (s0 : Nat) : (z_str s0).length = z_len.getD s0 0 := z_strp_len s0 _
theorem z_strpA (s0 : Nat) : ∀ (n k : Nat), k < n → (z_strp s0 n)[k]? = some (z_chr s0 (k : Int))
  | 0, k, h => absurd h (Nat.not_lt_zero k)
  | n + 1, k, h => by
    rw [z_strp]
    rcases Nat.lt_or_ge k n with h1 | h1
    · rw [List.getElem?_append_left (by rw [z_strp_len]; exact h1)]
      exact z_strpA s0 n k h1
    · have : k = n := by omega
      subst this
      rw [List.getElem?_append_right (by rw [z_strp_len]; exact Nat.le_refl _), z_strp_len, Nat.sub_self]
      rfl
theorem z_strA {s0 k : Nat} (h : k < z_len.getD s0 0) : (z_str s0)[k]? = some (z_chr s0 (k : Int)) := z_strpA s0 _ k h
/-- a stretch overwritten -/
def z_put (w : z_Mm) (d : Nat) (p : Int) (t : List Int) : z_Mm := fun b j => if b = d ∧ p ≤ j ∧ j < p + t.length then (t[(j - p).toNat]?).getD 0 else w b j
theorem z_fitB : ∀ k : Nat, k < 128 → fits .byte (.int (Int32.ofInt (k : Int))) = true := by decide +kernel
theorem z_fitB' {x : Int} (h : 0 ≤ x ∧ x < 128) : fits .byte (.int (Int32.ofInt x)) = true := by
  have := z_fitB x.toNat (by omega)
  rwa [show ((x.toNat : Nat) : Int) = x by omega] at this
theorem z_c255 : ∀ k : Nat, k < 256 → z_i2cv (z_and (k : Int) 255) = (k : Int) := by decide +kernel
theorem z_c255' {x : Int} (h : 0 ≤ x ∧ x < 256) : z_i2cv (z_and x 255) = x := by
  have := z_c255 x.toNat (by omega)
  rwa [show ((x.toNat : Nat) : Int) = x by omega] at this
theorem z_b128 : ∀ k : Nat, k < 128 → z_i2bv (k : Int) = (k : Int) := by decide +kernel
theorem z_b128' {x : Int} (h : 0 ≤ x ∧ x < 128) : z_i2bv x = x := by
  have := z_b128 x.toNat (by omega)
  rwa [show ((x.toNat : Nat) : Int) = x by omega] at this
theorem z_sl_0 {x : Int} (hx : z_R x) : z_shl x 0 = x := by
  unfold z_shl
  have h0 : ((Int32.ofInt 0 &&& 31).toBitVec.smod 32).toNat = 0 := by decide
  have h1 := pk_shl (Int32.ofInt x) (Int32.ofInt 0 &&& 31) 0 h0
  have h2 := (Int32.ofInt x).toBitVec.isLt
  have h3 : Int32.ofInt x <<< (Int32.ofInt 0 &&& 31) = Int32.ofInt x := by
    apply Int32.toBitVec_inj.mp
    apply BitVec.eq_of_toNat_eq
    rw [h1]
    omega
  rw [h3]
  exact z_toInt hx
/-- memory in other words -/
theorem z_eqw {M : z_M} {nz : Nat × Nat} {pc : Nat} {L : List (Nat × z_V)} {st : List z_V} {sh sh' : List z_C} {w w' : z_Mm} {Q : Option z_V → z_S → Prop} (hs : sh' = sh) (h : w' = w) (k : z_Sem M nz pc L st (sh', w') Q) : z_Sem M nz pc L st (sh, w) Q := by subst h hs; exact k
theorem z_gennw {M : z_M} {nz : Nat × Nat} {pc : Nat} {L : List (Nat × z_V)} {st : List z_V} {sh : List z_C} {w : z_Mm} {c : z_C} {Q : Option z_V → z_S → Prop} (k : ∀ w1 : z_Mm, (∀ j, w1 sh.length j = 0) → (∀ b, b ≠ sh.length → w1 b = w b) → z_Sem M nz pc L st (sh ++ [c], w1) Q) : z_Sem M nz pc L st (z_nw (sh, w) c) Q := k _ (fun j => by simp) (fun b hb => by simp [hb])
theorem z_lastat {sh : List z_C} {c : z_C} : (sh ++ [c])[sh.length]? = some c := by simp
theorem z_leftat {sh : List z_C} {a : Nat} {c d : z_C} (h : sh[a]? = some d) : (sh ++ [c])[a]? = some d := by rw [List.getElem?_append_left (List.getElem?_eq_some_iff.mp h).1]; exact h
theorem z_ltat {sh : List z_C} {a : Nat} {d : z_C} (h : sh[a]? = some d) : a < sh.length := (List.getElem?_eq_some_iff.mp h).1
theorem z_cl9 : z_Cl[9]? = some (RJ0, TJ0, 4) := rfl
theorem z_cl10 : z_Cl[10]? = some (RJ4, TJ4, 4) := rfl
section ZJDK
variable {sh : List z_C} {w : z_Mm} {Q : Option z_V → z_S → Prop}
/-! String, made -/
theorem t_J0_coderM {a v n : Nat} (hs : z_isSt sh a v n) (h1 : w a 1 = 0) (h : Q (some (z_i 0)) (sh, w)) : z_Sem mJ0_coder_7d493 (sh.length, 0) 0 [(0, z_r a)] [] (sh, w) Q := by
  refine z_getCS zgRJ0_38 dJ0_coder_7d493_0 ?_
  refine z_if_eq (tgt := 13) dJ0_coder_7d493_3 (by decide) (fun c => absurd c (by decide)) (fun _ => ?_)
  refine z_aload_n 0 dJ0_coder_7d493_6 rfl rfl ?_
  refine z_getI (ki := 1) zfRJ0_15 dJ0_coder_7d493_7 hs.1 rfl rfl ?_
  refine z_goto (tgt := 14) dJ0_coder_7d493_10 (by decide) ?_
  show z_Sem mJ0_coder_7d493 (sh.length, 0) 14 [(0, z_r a)] [z_i (w a 1)] (sh, w) Q
  rw [h1]
  exact z_ret (v := some (z_i 0)) dJ0_coder_7d493_14 ⟨rfl, Or.inr (Or.inr (Or.inr ⟨rfl, by decide⟩))⟩ rfl h
theorem t_J0_isLatin1M {a v n : Nat} (hs : z_isSt sh a v n) (h1 : w a 1 = 0) (h : Q (some (z_i 1)) (sh, w)) : z_Sem mJ0_isLatin1_aae02 (sh.length, 0) 0 [(0, z_r a)] [] (sh, w) Q := by
  refine z_getCS zgRJ0_38 dJ0_isLatin1_aae02_0 ?_
  refine z_if_eq (tgt := 17) dJ0_isLatin1_aae02_3 (by decide) (fun c => absurd c (by decide)) (fun _ => ?_)
  refine z_aload_n 0 dJ0_isLatin1_aae02_6 rfl rfl ?_
  refine z_getI (ki := 1) zfRJ0_15 dJ0_isLatin1_aae02_7 hs.1 rfl rfl ?_
  show z_Sem mJ0_isLatin1_aae02 (sh.length, 0) 10 [(0, z_r a)] [z_i (w a 1)] (sh, w) Q
  rw [h1]
  refine z_if_ne (tgt := 17) dJ0_isLatin1_aae02_10 (by decide) (fun c => absurd rfl c) (fun _ => ?_)
  refine z_iconst dJ0_isLatin1_aae02_13 (by decide) ?_
  refine z_goto (tgt := 18) dJ0_isLatin1_aae02_14 (by decide) ?_
  exact z_ret (v := some (z_i 1)) dJ0_isLatin1_aae02_18 ⟨rfl, Or.inr (Or.inl ⟨rfl, by decide⟩)⟩ rfl h
theorem t_J0_lengthM {a v n : Nat} (hs : z_isSt sh a v n) (h1 : w a 1 = 0) (hn : n ≤ 100000) (h : Q (some (z_i (n : Int))) (sh, w)) : z_Sem mJ0_length_8abf5 (sh.length, 0) 0 [(0, z_r a)] [] (sh, w) Q := by
  have hR : z_R (n : Int) := ⟨by omega, by omega⟩
  refine z_aload_n 0 dJ0_length_8abf5_0 rfl rfl ?_
  refine z_getR (r := v) zfRJ0_9 dJ0_length_8abf5_1 hs.1 rfl ?_
  refine z_alen dJ0_length_8abf5_4 (by decide) hs.2 hR ?_
  refine z_aload_n 0 dJ0_length_8abf5_5 rfl rfl ?_
  refine z_callV (As := []) (rest := [z_i (n : Int)]) zmJ0_coder_7d493 znJ0_coder_7d493 zsJ0_coder_7d493 z_cl9 zlRJ0_335 ⟨Nat.le_of_ble_eq_true rfl, Nat.le_of_ble_eq_true rfl⟩ dJ0_length_8abf5_6 hs.1 rfl rfl z_a0 (Nat.le_of_ble_eq_true rfl) (Nat.le_of_ble_eq_true rfl) ⟨rfl, rfl⟩ ?_
  refine t_J0_coderM hs h1 ?_
  show z_Sem mJ0_length_8abf5 (sh.length, 0) 9 [(0, z_r a)] [z_i 0, z_i (n : Int)] (sh, w) Q
  refine z_ishr dJ0_length_8abf5_9 ?_
  rw [z_sh_0 hR]
  exact z_ret (v := some (z_i (n : Int))) dJ0_length_8abf5_10 ⟨rfl, Or.inl rfl⟩ rfl h
theorem t_J1_charAtM {v n : Nat} {x1 : Int} (hv : sh[v]? = some (.inr (.inl (2, n)))) (hn : n ≤ 100000) (h1 : 0 ≤ x1 ∧ x1 < (n : Int)) (hb : 0 ≤ w v x1 ∧ w v x1 < 128) (h : Q (some (z_i (w v x1))) (sh, w)) : z_Sem mJ1_charAt_3b067 (sh.length, 0) 0 [(0, z_r v), (1, z_i x1)] [] (sh, w) Q := by
  refine z_iload_n 1 dJ1_charAt_3b067_0 rfl rfl ?_
  refine z_aload_n 0 dJ1_charAt_3b067_1 rfl rfl ?_
  refine z_alen dJ1_charAt_3b067_2 (by decide) hv ⟨by omega, by omega⟩ ?_
  refine z_callS (As := [z_i x1, z_i (n : Int)]) (rest := []) zmJ0_checkIndex_df160 ztJ0_checkIndex_df160 zlRJ1_9 ⟨Nat.le_of_ble_eq_true rfl, Nat.le_of_ble_eq_true rfl⟩ dJ1_charAt_3b067_3 rfl rfl (z_ai (z_ai z_a0)) (Nat.le_of_ble_eq_true rfl) (Nat.le_of_ble_eq_true rfl) ⟨rfl, rfl⟩ ?_
  refine t_J0_check h1 ?_
  show z_Sem mJ1_charAt_3b067 (sh.length, 0) 6 [(0, z_r v), (1, z_i x1)] [] (sh, w) Q
  refine z_aload_n 0 dJ1_charAt_3b067_6 rfl rfl ?_
  refine z_iload_n 1 dJ1_charAt_3b067_7 rfl rfl ?_
  refine z_bald dJ1_charAt_3b067_8 hv h1 ?_
  refine z_sipush dJ1_charAt_3b067_9 (by decide) (by decide) ?_
  refine z_iand dJ1_charAt_3b067_12 ?_
  refine z_i2c dJ1_charAt_3b067_13 ?_
  show z_Sem mJ1_charAt_3b067 (sh.length, 0) 14 [(0, z_r v), (1, z_i x1)] [z_i (z_i2cv (z_and (w v x1) 255))] (sh, w) Q
  rw [z_c255' ⟨hb.1, by omega⟩]
  exact z_ret (v := some (z_i (w v x1))) dJ1_charAt_3b067_14 ⟨rfl, Or.inr (Or.inr (Or.inl ⟨rfl, by omega, by omega⟩))⟩ rfl h
theorem t_J0_charAtM {a v n : Nat} {x1 : Int} (hs : z_isSt sh a v n) (ha : w a 1 = 0) (hn : n ≤ 100000) (h1 : 0 ≤ x1 ∧ x1 < (n : Int)) (hb : 0 ≤ w v x1 ∧ w v x1 < 128) (h : Q (some (z_i (w v x1))) (sh, w)) : z_Sem mJ0_charAt_5068e (sh.length, 0) 0 [(0, z_r a), (1, z_i x1)] [] (sh, w) Q := by
  refine z_aload_n 0 dJ0_charAt_5068e_0 rfl rfl ?_
  refine z_callV (As := []) (rest := []) zmJ0_isLatin1_aae02 znJ0_isLatin1_aae02 zsJ0_isLatin1_aae02 z_cl9 zlRJ0_492 ⟨Nat.le_of_ble_eq_true rfl, Nat.le_of_ble_eq_true rfl⟩ dJ0_charAt_5068e_1 hs.1 rfl rfl z_a0 (Nat.le_of_ble_eq_true rfl) (Nat.le_of_ble_eq_true rfl) ⟨rfl, rfl⟩ ?_
  refine t_J0_isLatin1M hs ha ?_
  show z_Sem mJ0_charAt_5068e (sh.length, 0) 4 [(0, z_r a), (1, z_i x1)] [z_i 1] (sh, w) Q
  refine z_if_eq (tgt := 16) dJ0_charAt_5068e_4 (by decide) (fun c => absurd c (by decide)) (fun _ => ?_)
  refine z_aload_n 0 dJ0_charAt_5068e_7 rfl rfl ?_
  refine z_getR (r := v) zfRJ0_9 dJ0_charAt_5068e_8 hs.1 rfl ?_
  refine z_iload_n 1 dJ0_charAt_5068e_11 rfl rfl ?_
  refine z_callS (As := [z_r v, z_i x1]) (rest := []) zmJ1_charAt_3b067 ztJ1_charAt_3b067 zlRJ0_495 ⟨Nat.le_of_ble_eq_true rfl, Nat.le_of_ble_eq_true rfl⟩ dJ0_charAt_5068e_12 rfl rfl (z_ar (z_ai z_a0)) (Nat.le_of_ble_eq_true rfl) (Nat.le_of_ble_eq_true rfl) ⟨rfl, rfl⟩ ?_
  refine t_J1_charAtM hs.2 hn h1 hb ?_
  show z_Sem mJ0_charAt_5068e (sh.length, 0) 15 [(0, z_r a), (1, z_i x1)] [z_i (w v x1)] (sh, w) Q
  exact z_ret (v := some (z_i (w v x1))) dJ0_charAt_5068e_15 ⟨rfl, Or.inr (Or.inr (Or.inl ⟨rfl, by omega, by omega⟩))⟩ rfl h
/-! a String, whatever it is -/
theorem z_recx {M : z_M} {n0 x : Nat} {t : List Int} (hx : z_isx sh w x t) {G : z_G} {p : Program} {s : State} {m : MethodId} {args : Array Value} {meth : Method} {c : Code} {H : Heap} {locs : List Loc} (hX : z_X G M n0 p s m args meth c) (hP : z_P G (sh, w) s H locs) : z_rec "java/lang/String" x G s H := by
  rcases hx.2 with ⟨s0, h1, rfl, -⟩ | ⟨v, h1, -⟩
  · exact z_recS h1 hX hP
  · exact z_recC (σ := (sh, w)) z_cl9 h1.1 hX hP
theorem t_J0_coderX {x : Nat} {t : List Int} (hx : z_isx sh w x t) (h : Q (some (z_i 0)) (sh, w)) : z_Sem mJ0_coder_7d493 (sh.length, 0) 0 [(0, z_r x)] [] (sh, w) Q := by
  rcases hx.2 with ⟨s0, h1, rfl, -⟩ | ⟨v, h1, h2, -⟩
  · exact t_J0_coder h1 h
  · exact t_J0_coderM h1 h2 h
theorem t_J0_lengthX {x : Nat} {t : List Int} (hx : z_isx sh w x t) (hn : t.length ≤ 100000) (h : Q (some (z_i (t.length : Int))) (sh, w)) : z_Sem mJ0_length_8abf5 (sh.length, 0) 0 [(0, z_r x)] [] (sh, w) Q := by
  rcases hx.2 with ⟨s0, h1, rfl, rfl⟩ | ⟨v, h1, h2, -⟩
  · refine t_J0_length_8abf5 h1 ?_
    rw [z_strpl] at h
    exact h
  · exact t_J0_lengthM h1 h2 hn h
/-- getBytes into a row -/
theorem t_J0_getBytesX {x d m : Nat} {t : List Int} {p : Int} (hx : z_isx sh w x t) (hn : t.length ≤ 100000) (hd : sh[d]? = some (.inr (.inl (2, m)))) (hp : 0 ≤ p ∧ p + t.length ≤ (m : Int)) (hpR : z_R p) (h : Q none (sh, z_put w d p t)) : z_Sem mJ0_getBytes_840e7 (sh.length, 0) 0 [(0, z_r x), (1, z_r d), (2, z_i p), (3, z_i 0)] [] (sh, w) Q := by
  have hlR : z_R (t.length : Int) := ⟨by omega, by omega⟩
  refine z_aload_n 0 dJ0_getBytes_840e7_0 rfl rfl ?_
  refine z_callN (vs := [z_r x]) (rest := []) (z_invV (C := "java/lang/String") (As := []) zmJ0_coder_7d493 znJ0_coder_7d493 zsJ0_coder_7d493 zlRJ0_335 ⟨Nat.le_of_ble_eq_true rfl, Nat.le_of_ble_eq_true rfl⟩ dJ0_getBytes_840e7_1 rfl) zmJ0_coder_7d493.2.2.2.2 (fun G p s m args meth c H locs hX hP => z_recx hx hX hP) rfl (z_ar z_a0) (Nat.le_of_ble_eq_true rfl) (Nat.le_of_ble_eq_true rfl) ⟨rfl, rfl⟩ ?_
  refine t_J0_coderX hx ?_
  show z_Sem mJ0_getBytes_840e7 (sh.length, 0) 4 [(0, z_r x), (1, z_r d), (2, z_i p), (3, z_i 0)] [z_i 0] (sh, w) Q
  refine z_iload_n 3 dJ0_getBytes_840e7_4 rfl rfl ?_
  refine z_icmp_ne (tgt := 28) dJ0_getBytes_840e7_5 (by decide) (fun c => absurd rfl c) (fun _ => ?_)
  refine z_aload_n 0 dJ0_getBytes_840e7_8 rfl rfl ?_
  rcases hx.2 with ⟨s0, h1, rfl, rfl⟩ | ⟨v, h1, h2, h3⟩
  · have h7 := z_len7 s0 h1
    rw [z_strpl] at hn hp hlR
    refine z_strval (fin := ()) h1 rfl zfs9 dJ0_getBytes_840e7_9 ?_
    refine z_iconst dJ0_getBytes_840e7_12 (by decide) ?_
    refine z_aload_n 1 dJ0_getBytes_840e7_13 rfl rfl ?_
    refine z_iload_n 2 dJ0_getBytes_840e7_14 rfl rfl ?_
    refine z_iload_n 3 dJ0_getBytes_840e7_15 rfl rfl ?_
    refine z_ishl dJ0_getBytes_840e7_16 ?_
    rw [z_sl_0 hpR]
    refine z_aload_n 0 dJ0_getBytes_840e7_17 rfl rfl ?_
    refine z_strval (fin := ()) h1 rfl zfs9 dJ0_getBytes_840e7_18 ?_
    refine z_strlen h1 dJ0_getBytes_840e7_21 hlR ?_
    refine z_copyF (f := fun j => z_chr s0 j) h1 (fun j hj => ?_) zARJ0_212 zl_cpn zl_cps zl_cpi hd ⟨by decide, hp.1, by omega⟩ ⟨by omega, hp.2⟩ ⟨z_lek rfl, z_lek rfl⟩ dJ0_getBytes_840e7_22 ?_
    · obtain ⟨c1, -, c2, c3⟩ := z_chrs s0 h1 j (by omega)
      have := z_str_at s0 h1 (z_chr s0 (j : Int)) (List.mem_of_getElem? (z_strA hj))
      exact ⟨c1, z_fitB' this, ⟨by omega, by omega⟩⟩
    · refine z_goto (tgt := 43) dJ0_getBytes_840e7_25 (by decide) ?_
      refine z_eqw (sh' := sh) (w' := z_put w d p (z_str s0)) rfl ?_ (z_ret (v := none) dJ0_getBytes_840e7_43 ⟨rfl, rfl⟩ rfl h)
      funext b j
      show (if b = d ∧ p ≤ j ∧ j < p + ((z_str s0).length : Int) then _ else _) = if b = d ∧ p ≤ j ∧ j < p + ((z_len.getD s0 0 : Nat) : Int) then z_chr s0 (0 + (j - p)) else w b j
      rw [z_strpl]
      by_cases hc : b = d ∧ p ≤ j ∧ j < p + ((z_len.getD s0 0 : Nat) : Int)
      · rw [if_pos hc, if_pos hc, z_strA (by omega)]
        show z_chr s0 _ = _
        congr 1
        omega
      · rw [if_neg hc, if_neg hc]
  · refine z_getR (r := v) zfRJ0_9 dJ0_getBytes_840e7_9 h1.1 rfl ?_
    refine z_iconst dJ0_getBytes_840e7_12 (by decide) ?_
    refine z_aload_n 1 dJ0_getBytes_840e7_13 rfl rfl ?_
    refine z_iload_n 2 dJ0_getBytes_840e7_14 rfl rfl ?_
    refine z_iload_n 3 dJ0_getBytes_840e7_15 rfl rfl ?_
    refine z_ishl dJ0_getBytes_840e7_16 ?_
    rw [z_sl_0 hpR]
    refine z_aload_n 0 dJ0_getBytes_840e7_17 rfl rfl ?_
    refine z_getR (r := v) zfRJ0_9 dJ0_getBytes_840e7_18 h1.1 rfl ?_
    refine z_alen dJ0_getBytes_840e7_21 (by decide) h1.2 hlR ?_
    refine z_copyK (Or.inr ⟨rfl, rfl⟩) (fun i i0 i1 => ?_) zARJ0_212 zl_cpn zl_cps zl_cpi h1.2 hd ⟨by decide, hp.1, by omega⟩ ⟨by omega, hp.2⟩ ⟨z_lek rfl, z_lek rfl⟩ dJ0_getBytes_840e7_22 ?_
    · have e := h3.at (k := i.toNat) (by omega)
      rw [show ((i.toNat : Nat) : Int) = i by omega] at e
      show fits .byte (.int (Int32.ofInt (w v i))) = true
      rw [e]
      exact z_fitB' (hx.1 _ (List.getElem_mem _))
    · refine z_goto (tgt := 43) dJ0_getBytes_840e7_25 (by decide) ?_
      refine z_eqw (sh' := sh) (w' := z_put w d p t) rfl ?_ (z_ret (v := none) dJ0_getBytes_840e7_43 ⟨rfl, rfl⟩ rfl h)
      funext b j
      show (if b = d ∧ p ≤ j ∧ j < p + (t.length : Int) then _ else _) = if b = d ∧ p ≤ j ∧ j < p + (t.length : Int) then w v (0 + (j - p)) else w b j
      by_cases hc : b = d ∧ p ≤ j ∧ j < p + (t.length : Int)
      · rw [if_pos hc, if_pos hc]
        have e := h3.at (k := (j - p).toNat) (by omega)
        rw [show (((j - p).toNat : Nat) : Int) = 0 + (j - p) by omega] at e
        rw [e, List.getElem?_eq_getElem (by omega)]
        rfl
      · rw [if_neg hc, if_neg hc]
/-! builders -/
theorem t_J5_isLatin1 {a v m : Nat} (hs : z_isSb sh a v m) (h1 : w a 1 = 0) (h : Q (some (z_i 1)) (sh, w)) : z_Sem mJ5_isLatin1_aae02 (sh.length, 0) 0 [(0, z_r a)] [] (sh, w) Q := by
  refine z_getCS zgRJ5_18 dJ5_isLatin1_aae02_0 ?_
  refine z_if_eq (tgt := 17) dJ5_isLatin1_aae02_3 (by decide) (fun c => absurd c (by decide)) (fun _ => ?_)
  refine z_aload_n 0 dJ5_isLatin1_aae02_6 rfl rfl ?_
  refine z_getI (ki := 1) zfRJ5_22 dJ5_isLatin1_aae02_7 hs.1 rfl rfl ?_
  show z_Sem mJ5_isLatin1_aae02 (sh.length, 0) 10 [(0, z_r a)] [z_i (w a 1)] (sh, w) Q
  rw [h1]
  refine z_if_ne (tgt := 17) dJ5_isLatin1_aae02_10 (by decide) (fun c => absurd rfl c) (fun _ => ?_)
  refine z_iconst dJ5_isLatin1_aae02_13 (by decide) ?_
  refine z_goto (tgt := 18) dJ5_isLatin1_aae02_14 (by decide) ?_
  exact z_ret (v := some (z_i 1)) dJ5_isLatin1_aae02_18 ⟨rfl, Or.inr (Or.inl ⟨rfl, by decide⟩)⟩ rfl h
theorem t_J5_inflateIf {a v m x : Nat} {t : List Int} (hs : z_isSb sh a v m) (h1 : w a 1 = 0) (hx : z_isx sh w x t) (h : Q none (sh, w)) : z_Sem mJ5_inflateIfNeededFor_a7421 (sh.length, 0) 0 [(0, z_r a), (1, z_r x)] [] (sh, w) Q := by
  refine z_getCS zgRJ5_18 dJ5_inflateIfNeededFor_a7421_0 ?_
  refine z_if_eq (tgt := 21) dJ5_inflateIfNeededFor_a7421_3 (by decide) (fun c => absurd c (by decide)) (fun _ => ?_)
  refine z_aload_n 0 dJ5_inflateIfNeededFor_a7421_6 rfl rfl ?_
  refine z_getI (ki := 1) zfRJ5_22 dJ5_inflateIfNeededFor_a7421_7 hs.1 rfl rfl ?_
  show z_Sem mJ5_inflateIfNeededFor_a7421 (sh.length, 0) 10 [(0, z_r a), (1, z_r x)] [z_i (w a 1)] (sh, w) Q
  rw [h1]
  refine z_aload_n 1 dJ5_inflateIfNeededFor_a7421_10 rfl rfl ?_
  refine z_callN (vs := [z_r x]) (rest := [z_i 0]) (z_invV (C := "java/lang/String") (As := []) zmJ0_coder_7d493 znJ0_coder_7d493 zsJ0_coder_7d493 zlRJ5_40 ⟨Nat.le_of_ble_eq_true rfl, Nat.le_of_ble_eq_true rfl⟩ dJ5_inflateIfNeededFor_a7421_11 rfl) zmJ0_coder_7d493.2.2.2.2 (fun G p s m args meth c H locs hX hP => z_recx hx hX hP) rfl (z_ar z_a0) (Nat.le_of_ble_eq_true rfl) (Nat.le_of_ble_eq_true rfl) ⟨rfl, rfl⟩ ?_
  refine t_J0_coderX hx ?_
  show z_Sem mJ5_inflateIfNeededFor_a7421 (sh.length, 0) 14 [(0, z_r a), (1, z_r x)] [z_i 0, z_i 0] (sh, w) Q
  refine z_icmp_eq (tgt := 21) dJ5_inflateIfNeededFor_a7421_14 (by decide) (fun _ => ?_) (fun c => absurd rfl c)
  exact z_ret (v := none) dJ5_inflateIfNeededFor_a7421_21 ⟨rfl, rfl⟩ rfl h
theorem t_J5_putStringAt {a v m x : Nat} {t : List Int} {p : Int} (hs : z_isSb sh a v m) (h1 : w a 1 = 0) (hx : z_isx sh w x t) (hn : t.length ≤ 100000) (hp : 0 ≤ p ∧ p + t.length ≤ (m : Int)) (hpR : z_R p) (h : Q none (sh, z_put w v p t)) : z_Sem mJ5_putStringAt_47b60 (sh.length, 0) 0 [(0, z_r a), (1, z_i p), (2, z_r x)] [] (sh, w) Q := by
  refine z_aload_n 0 dJ5_putStringAt_47b60_0 rfl rfl ?_
  refine z_aload_n 2 dJ5_putStringAt_47b60_1 rfl rfl ?_
  refine z_callV (As := [z_r x]) (rest := []) zmJ5_inflateIfNeededFor_a7421 znJ5_inflateIfNeededFor_a7421 zsJ5_inflateIfNeededFor_a7421 z_cl10 zlRJ5_397 ⟨Nat.le_of_ble_eq_true rfl, Nat.le_of_ble_eq_true rfl⟩ dJ5_putStringAt_47b60_2 hs.1 rfl rfl (z_ar z_a0) (Nat.le_of_ble_eq_true rfl) (Nat.le_of_ble_eq_true rfl) ⟨rfl, rfl⟩ ?_
  refine t_J5_inflateIf hs h1 hx ?_
  show z_Sem mJ5_putStringAt_47b60 (sh.length, 0) 5 [(0, z_r a), (1, z_i p), (2, z_r x)] [] (sh, w) Q
  refine z_aload_n 2 dJ5_putStringAt_47b60_5 rfl rfl ?_
  refine z_aload_n 0 dJ5_putStringAt_47b60_6 rfl rfl ?_
  refine z_getR (r := v) zfRJ5_15 dJ5_putStringAt_47b60_7 hs.1 rfl ?_
  refine z_iload_n 1 dJ5_putStringAt_47b60_10 rfl rfl ?_
  refine z_aload_n 0 dJ5_putStringAt_47b60_11 rfl rfl ?_
  refine z_getI (ki := 1) zfRJ5_22 dJ5_putStringAt_47b60_12 hs.1 rfl rfl ?_
  show z_Sem mJ5_putStringAt_47b60 (sh.length, 0) 15 [(0, z_r a), (1, z_i p), (2, z_r x)] [z_i (w a 1), z_i p, z_r v, z_r x] (sh, w) Q
  rw [h1]
  refine z_callN (vs := [z_r x, z_r v, z_i p, z_i 0]) (rest := []) (z_invV (C := "java/lang/String") (As := [z_r v, z_i p, z_i 0]) zmJ0_getBytes_840e7 znJ0_getBytes_840e7 zsJ0_getBytes_840e7 zlRJ5_399 ⟨Nat.le_of_ble_eq_true rfl, Nat.le_of_ble_eq_true rfl⟩ dJ5_putStringAt_47b60_15 rfl) zmJ0_getBytes_840e7.2.2.2.2 (fun G p s m args meth c H locs hX hP => z_recx hx hX hP) rfl (z_ar (z_ar (z_ai (z_ai z_a0)))) (Nat.le_of_ble_eq_true rfl) (Nat.le_of_ble_eq_true rfl) ⟨rfl, rfl⟩ ?_
  refine t_J0_getBytesX hx hn hs.2 hp hpR ?_
  show z_Sem mJ5_putStringAt_47b60 (sh.length, 0) 18 [(0, z_r a), (1, z_i p), (2, z_r x)] [] (sh, z_put w v p t) Q
  exact z_ret (v := none) dJ5_putStringAt_47b60_18 ⟨rfl, rfl⟩ rfl h
theorem t_J8_newLength {o g r : Int} (ho : 0 ≤ o ∧ o ≤ 1000000) (hg : 0 ≤ g ∧ g ≤ 1000000) (hr : 1 ≤ r ∧ r ≤ 1000000) (h : Q (some (z_i (o + max g r))) (sh, w)) : z_Sem mJ8_newLength_cabcc (sh.length, 0) 0 [(0, z_i o), (1, z_i g), (2, z_i r)] [] (sh, w) Q := by
  refine z_iload_n 0 dJ8_newLength_cabcc_0 rfl rfl ?_
  refine z_iload_n 1 dJ8_newLength_cabcc_1 rfl rfl ?_
  refine z_iload_n 2 dJ8_newLength_cabcc_2 rfl rfl ?_
  refine z_callS (As := [z_i g, z_i r]) (rest := [z_i o]) zmJ9_max_7cf53 ztJ9_max_7cf53 zlRJ8_194 ⟨Nat.le_of_ble_eq_true rfl, Nat.le_of_ble_eq_true rfl⟩ dJ8_newLength_cabcc_3 rfl rfl (z_ai (z_ai z_a0)) (Nat.le_of_ble_eq_true rfl) (Nat.le_of_ble_eq_true rfl) ⟨rfl, rfl⟩ ?_
  refine t_J9_max_7cf53 ?_
  show z_Sem mJ8_newLength_cabcc (sh.length, 0) 6 [(0, z_i o), (1, z_i g), (2, z_i r)] [z_i (f_J9_max_7cf53 w g r), z_i o] (sh, w) Q
  rw [z_fmax]
  have hR : z_R (o + max g r) := ⟨by omega, by omega⟩
  refine z_iadd dJ8_newLength_cabcc_6 hR ?_
  refine z_istore_n (L' := [(3, z_i (o + max g r)), (0, z_i o), (1, z_i g), (2, z_i r)]) dJ8_newLength_cabcc_7 rfl (z_ltk rfl) rfl ?_
  refine z_iconst dJ8_newLength_cabcc_8 (by decide) ?_
  refine z_iload_n 0 dJ8_newLength_cabcc_9 rfl rfl ?_
  refine z_icmp_ge (tgt := 21) dJ8_newLength_cabcc_10 (by decide) (fun c => absurd c (by omega)) (fun _ => ?_)
  refine z_iload_n 0 dJ8_newLength_cabcc_13 rfl rfl ?_
  refine z_ldc (n := 2147483639) zkRJ8_200 dJ8_newLength_cabcc_14 (by decide) (by decide) ?_
  refine z_icmp_gt (tgt := 21) dJ8_newLength_cabcc_16 (by decide) (fun c => absurd c (by omega)) (fun _ => ?_)
  refine z_iload_n 0 dJ8_newLength_cabcc_19 rfl rfl ?_
  exact z_ret (v := some (z_i (o + max g r))) dJ8_newLength_cabcc_20 ⟨rfl, Or.inl rfl⟩ rfl h
theorem t_J5_newCapacity {a v m : Nat} {q : Int} (hs : z_isSb sh a v m) (h1 : w a 1 = 0) (hm : m ≤ 100000) (hq : (m : Int) < q ∧ q ≤ 100000) (h : Q (some (z_i ((m : Int) + max (q - m) (m + 2)))) (sh, w)) : z_Sem mJ5_newCapacity_0f7a4 (sh.length, 0) 0 [(0, z_r a), (1, z_i q)] [] (sh, w) Q := by
  have hmR : z_R (m : Int) := ⟨by omega, by omega⟩
  refine z_aload_n 0 dJ5_newCapacity_0f7a4_0 rfl rfl ?_
  refine z_getR (r := v) zfRJ5_15 dJ5_newCapacity_0f7a4_1 hs.1 rfl ?_
  refine z_alen dJ5_newCapacity_0f7a4_4 (by decide) hs.2 hmR ?_
  refine z_istore_n (L' := [(2, z_i (m : Int)), (0, z_r a), (1, z_i q)]) dJ5_newCapacity_0f7a4_5 rfl (z_ltk rfl) rfl ?_
  refine z_iload_n 2 dJ5_newCapacity_0f7a4_6 rfl rfl ?_
  refine z_aload_n 1 dJ5_newCapacity_0f7a4_7 rfl rfl ?_
  refine z_getI (ki := 1) zfRJ5_22 dJ5_newCapacity_0f7a4_8 hs.1 rfl rfl ?_
  show z_Sem mJ5_newCapacity_0f7a4 (sh.length, 0) 11 [(2, z_i (m : Int)), (0, z_r a), (1, z_i q)] [z_i (w a 1), z_i q] (sh, w) Q
  rw [h1]
  refine z_ishl dJ5_newCapacity_0f7a4_11 ?_
  rw [z_sl_0 ⟨by omega, by omega⟩]
  refine z_istore_n (L' := [(3, z_i q), (2, z_i (m : Int)), (0, z_r a), (1, z_i q)]) dJ5_newCapacity_0f7a4_12 rfl (z_ltk rfl) rfl ?_
  refine z_iload_n 0 dJ5_newCapacity_0f7a4_13 rfl rfl ?_
  refine z_iload_n 1 dJ5_newCapacity_0f7a4_14 rfl rfl ?_
  refine z_isub dJ5_newCapacity_0f7a4_15 ⟨by omega, by omega⟩ ?_
  refine z_istore (L' := [(4, z_i (q - m)), (3, z_i q), (2, z_i (m : Int)), (0, z_r a), (1, z_i q)]) dJ5_newCapacity_0f7a4_16 (z_ltk rfl) rfl ?_
  refine z_iload_n 2 dJ5_newCapacity_0f7a4_18 rfl rfl ?_
  refine z_iload 0 dJ5_newCapacity_0f7a4_19 rfl ?_
  refine z_iload_n 2 dJ5_newCapacity_0f7a4_21 rfl rfl ?_
  refine z_iconst dJ5_newCapacity_0f7a4_22 (by decide) ?_
  refine z_aload_n 3 dJ5_newCapacity_0f7a4_23 rfl rfl ?_
  refine z_getI (ki := 1) zfRJ5_22 dJ5_newCapacity_0f7a4_24 hs.1 rfl rfl ?_
  show z_Sem mJ5_newCapacity_0f7a4 (sh.length, 0) 27 [(4, z_i (q - m)), (3, z_i q), (2, z_i (m : Int)), (0, z_r a), (1, z_i q)] [z_i (w a 1), z_i 2, z_i (m : Int), z_i (q - m), z_i (m : Int)] (sh, w) Q
  rw [h1]
  refine z_ishl dJ5_newCapacity_0f7a4_27 ?_
  rw [z_sl_0 (by decide)]
  refine z_iadd dJ5_newCapacity_0f7a4_28 ⟨by omega, by omega⟩ ?_
  refine z_callS (As := [z_i (m : Int), z_i (q - m), z_i ((m : Int) + 2)]) (rest := []) zmJ8_newLength_cabcc ztJ8_newLength_cabcc zlRJ5_114 ⟨Nat.le_of_ble_eq_true rfl, Nat.le_of_ble_eq_true rfl⟩ dJ5_newCapacity_0f7a4_29 rfl rfl (z_ai (z_ai (z_ai z_a0))) (Nat.le_of_ble_eq_true rfl) (Nat.le_of_ble_eq_true rfl) ⟨rfl, rfl⟩ ?_
  refine t_J8_newLength ⟨by omega, by omega⟩ ⟨by omega, by omega⟩ ⟨by omega, by omega⟩ ?_
  show z_Sem mJ5_newCapacity_0f7a4 (sh.length, 0) 32 [(4, z_i (q - m)), (3, z_i q), (2, z_i (m : Int)), (0, z_r a), (1, z_i q)] [z_i ((m : Int) + max (q - m) ((m : Int) + 2))] (sh, w) Q
  generalize hy : (m : Int) + max (q - m) ((m : Int) + 2) = y at h ⊢
  refine z_istore (L' := [(5, z_i y), (4, z_i (q - m)), (3, z_i q), (2, z_i (m : Int)), (0, z_r a), (1, z_i q)]) dJ5_newCapacity_0f7a4_32 (z_ltk rfl) rfl ?_
  refine z_iload 0 dJ5_newCapacity_0f7a4_34 rfl ?_
  refine z_ldc (n := 2147483647) zkRJ5_39 dJ5_newCapacity_0f7a4_36 (by decide) (by decide) ?_
  refine z_icmp_ne (tgt := 51) dJ5_newCapacity_0f7a4_38 (by decide) (fun _ => ?_) (fun c => absurd c (by omega))
  refine z_iload 0 dJ5_newCapacity_0f7a4_51 rfl ?_
  refine z_aload_n 4 dJ5_newCapacity_0f7a4_53 rfl rfl ?_
  refine z_getI (ki := 1) zfRJ5_22 dJ5_newCapacity_0f7a4_54 hs.1 rfl rfl ?_
  show z_Sem mJ5_newCapacity_0f7a4 (sh.length, 0) 57 [(5, z_i y), (4, z_i (q - m)), (3, z_i q), (2, z_i (m : Int)), (0, z_r a), (1, z_i q)] [z_i (w a 1), z_i y] (sh, w) Q
  rw [h1]
  refine z_ishr dJ5_newCapacity_0f7a4_57 ?_
  rw [z_sh_0 ⟨by omega, by omega⟩]
  exact z_ret (v := some (z_i y)) dJ5_newCapacity_0f7a4_58 ⟨rfl, Or.inl rfl⟩ rfl h
/-- copyOf, to a greater length -/
theorem t_J7_copyOf {v m n k : Nat} (hv : sh[v]? = some (.inr (.inl (2, m)))) (hmn : m < n) (hn : n ≤ 1000000) (hk : n ≤ k) (hsl : sh.length < 1000) (hlo : z_cls0 sh) (hb : ∀ j : Int, 0 ≤ j → j < m → 0 ≤ w v j ∧ w v j < 128)
    (h : ∀ w' : z_Mm, (∀ j : Int, 0 ≤ j → j < m → w' sh.length j = w v j) → (∀ j : Int, (j < 0 ∨ m ≤ j) → w' sh.length j = 0) → (∀ b, b ≠ sh.length → w' b = w b) → Q (some (z_r sh.length)) (sh ++ [.inr (.inl (2, n))], w')) : z_Sem (mJ7_copyOf_9075b k) (sh.length, 0) 0 [(0, z_r v), (1, z_i (n : Int))] [] (sh, w) Q := by
  have hmR : z_R (m : Int) := ⟨by omega, by omega⟩
  have hvl := z_ltat hv
  refine z_iload_n 1 dJ7_copyOf_9075b_0 rfl rfl ?_
  refine z_aload_n 0 dJ7_copyOf_9075b_1 rfl rfl ?_
  refine z_alen dJ7_copyOf_9075b_2 (by decide) hv hmR ?_
  refine z_icmp_ne (tgt := 14) dJ7_copyOf_9075b_3 (by decide) (fun _ => ?_) (fun c => absurd c (by omega))
  refine z_iload_n 1 dJ7_copyOf_9075b_14 rfl rfl ?_
  refine z_newa (kd := 2) (Or.inr (Or.inr ⟨rfl, rfl⟩)) z_awb (by omega) hsl hlo (fun q hq => ?_) (fun q hq => by cases hq) (by omega) ⟨by show 0 + n ≤ k; omega, by show 0 + n ≤ k; omega⟩ dJ7_copyOf_9075b_15 ?_
  · rcases List.mem_cons.mp hq with rfl | hq
    · exact Or.inl hvl
    · rcases List.mem_cons.mp hq with rfl | hq
      · exact True.intro
      · cases hq
  · refine z_gennw (fun w1 hw1 hw2 => ?_)
    have hv1 : (sh ++ [.inr (.inl (2, n))])[v]? = some (.inr (.inl (2, m))) := z_leftat hv
    refine z_astore_n (L' := [(2, z_r sh.length), (0, z_r v), (1, z_i (n : Int))]) dJ7_copyOf_9075b_17 rfl (z_ltk rfl) rfl ?_
    refine z_aload_n 1 dJ7_copyOf_9075b_18 rfl rfl ?_
    refine z_iconst dJ7_copyOf_9075b_19 (by decide) ?_
    refine z_aload_n 0 dJ7_copyOf_9075b_20 rfl rfl ?_
    refine z_iconst dJ7_copyOf_9075b_21 (by decide) ?_
    refine z_aload_n 1 dJ7_copyOf_9075b_22 rfl rfl ?_
    refine z_alen dJ7_copyOf_9075b_23 (by decide) hv1 hmR ?_
    refine z_iload_n 2 dJ7_copyOf_9075b_24 rfl rfl ?_
    refine z_callS (As := [z_i (m : Int), z_i (n : Int)]) (rest := [z_i 0, z_r sh.length, z_i 0, z_r v]) zmJ9_min_7cf53 ztJ9_min_7cf53 zlRJ7_304 ⟨Nat.le_of_ble_eq_true rfl, Nat.le_of_ble_eq_true rfl⟩ dJ7_copyOf_9075b_25 rfl rfl (z_ai (z_ai z_a0)) (Nat.le_of_ble_eq_true rfl) (Nat.le_of_ble_eq_true rfl) ⟨rfl, rfl⟩ ?_
    refine t_J9_min_7cf53 ?_
    show z_Sem (mJ7_copyOf_9075b k) (sh.length, 0 + n) 28 [(2, z_r sh.length), (0, z_r v), (1, z_i (n : Int))] [z_i (f_J9_min_7cf53 w1 (m : Int) (n : Int)), z_i 0, z_r sh.length, z_i 0, z_r v] (sh ++ [.inr (.inl (2, n))], w1) Q
    rw [z_fmin, show min (m : Int) (n : Int) = (m : Int) by omega]
    refine z_copyK (Or.inr ⟨rfl, rfl⟩) (fun i i0 i1 => ?_) zARJ7_150 zl_cpn zl_cps zl_cpi hv1 z_lastat ⟨by decide, by decide, by omega⟩ ⟨by omega, by omega⟩ ⟨z_lek rfl, z_lek rfl⟩ dJ7_copyOf_9075b_28 ?_
    · show fits .byte (.int (Int32.ofInt (w1 v i))) = true
      rw [hw2 v (by omega)]
      exact z_fitB' (hb i (by omega) (by omega))
    · refine z_aload_n 0 dJ7_copyOf_9075b_31 rfl rfl ?_
      refine z_ret (v := some (z_r sh.length)) dJ7_copyOf_9075b_32 ⟨rfl, _, rfl, Or.inr ⟨_, rfl⟩⟩ rfl ?_
      refine h (z_CP w1 v 0 sh.length 0 (m : Int)) (fun j j0 j1 => ?_) (fun j hj => ?_) (fun b hb => ?_)
      · rw [z_CP_in ⟨j0, by omega⟩, show (0 : Int) + (j - 0) = j by omega, hw2 v (by omega)]
      · rw [z_CP_ne (by omega), hw1]
      · rw [z_CPf hb, hw2 b hb]
/-- a builder with another row -/
abbrev z_sbc (v : Nat) : z_C := .inl (10, [some (some v), none, none, none])
theorem t_J5_ensure0 {a v m k : Nat} {q : Int} (hs : z_isSb sh a v m) (h1 : w a 1 = 0) (hm : m ≤ 100000) (hq : 0 ≤ q ∧ q ≤ m) (h : Q none (sh, w)) : z_Sem (mJ5_ensureCapacityInternal_d00df k) (sh.length, 0) 0 [(0, z_r a), (1, z_i q)] [] (sh, w) Q := by
  have hmR : z_R (m : Int) := ⟨by omega, by omega⟩
  refine z_aload_n 0 dJ5_ensureCapacityInternal_d00df_0 rfl rfl ?_
  refine z_getR (r := v) zfRJ5_15 dJ5_ensureCapacityInternal_d00df_1 hs.1 rfl ?_
  refine z_alen dJ5_ensureCapacityInternal_d00df_4 (by decide) hs.2 hmR ?_
  refine z_aload_n 0 dJ5_ensureCapacityInternal_d00df_5 rfl rfl ?_
  refine z_getI (ki := 1) zfRJ5_22 dJ5_ensureCapacityInternal_d00df_6 hs.1 rfl rfl ?_
  show z_Sem (mJ5_ensureCapacityInternal_d00df k) (sh.length, 0) 9 [(0, z_r a), (1, z_i q)] [z_i (w a 1), z_i (m : Int)] (sh, w) Q
  rw [h1]
  refine z_ishr dJ5_ensureCapacityInternal_d00df_9 ?_
  rw [z_sh_0 hmR]
  refine z_istore_n (L' := [(2, z_i (m : Int)), (0, z_r a), (1, z_i q)]) dJ5_ensureCapacityInternal_d00df_10 rfl (z_ltk rfl) rfl ?_
  refine z_iload_n 2 dJ5_ensureCapacityInternal_d00df_11 rfl rfl ?_
  refine z_iload_n 0 dJ5_ensureCapacityInternal_d00df_12 rfl rfl ?_
  refine z_isub dJ5_ensureCapacityInternal_d00df_13 ⟨by omega, by omega⟩ ?_
  refine z_if_le (tgt := 38) dJ5_ensureCapacityInternal_d00df_14 (by decide) (fun _ => ?_) (fun c => absurd (by omega : q - (m : Int) ≤ 0) c)
  exact z_ret (v := none) dJ5_ensureCapacityInternal_d00df_38 ⟨rfl, rfl⟩ rfl h
theorem z_u_sh {sh : List z_C} {w : z_Mm} {a : Nat} {c : z_C} : z_u (sh, w) a c (w a) = (sh.set a c, w) := by
  show (sh.set a c, fun b => if b = a then w a else w b) = _
  congr 1
  funext b
  split
  · rename_i h; rw [h]
  · rfl
theorem t_J5_ensure1 {a v m k n : Nat} {q : Int} (hs : z_isSb sh a v m) (h1 : w a 1 = 0) (hm : m ≤ 40000) (hq : (m : Int) < q ∧ q ≤ 40000) (hn : (n : Int) = (m : Int) + max (q - m) (m + 2)) (hk : n ≤ k) (hsl : sh.length < 1000) (hlo : z_cls0 sh) (hb : ∀ j : Int, 0 ≤ j → j < m → 0 ≤ w v j ∧ w v j < 128)
    (h : ∀ w' : z_Mm, (∀ j : Int, 0 ≤ j → j < m → w' sh.length j = w v j) → (∀ j : Int, (j < 0 ∨ m ≤ j) → w' sh.length j = 0) → (∀ b, b ≠ sh.length → w' b = w b) → Q none (sh.set a (z_sbc sh.length) ++ [.inr (.inl (2, n))], w')) : z_Sem (mJ5_ensureCapacityInternal_d00df k) (sh.length, 0) 0 [(0, z_r a), (1, z_i q)] [] (sh, w) Q := by
  have hmR : z_R (m : Int) := ⟨by omega, by omega⟩
  have hal := z_ltat hs.1
  have hvl := z_ltat hs.2
  refine z_aload_n 0 dJ5_ensureCapacityInternal_d00df_0 rfl rfl ?_
  refine z_getR (r := v) zfRJ5_15 dJ5_ensureCapacityInternal_d00df_1 hs.1 rfl ?_
  refine z_alen dJ5_ensureCapacityInternal_d00df_4 (by decide) hs.2 hmR ?_
  refine z_aload_n 0 dJ5_ensureCapacityInternal_d00df_5 rfl rfl ?_
  refine z_getI (ki := 1) zfRJ5_22 dJ5_ensureCapacityInternal_d00df_6 hs.1 rfl rfl ?_
  show z_Sem (mJ5_ensureCapacityInternal_d00df k) (sh.length, 0) 9 [(0, z_r a), (1, z_i q)] [z_i (w a 1), z_i (m : Int)] (sh, w) Q
  rw [h1]
  refine z_ishr dJ5_ensureCapacityInternal_d00df_9 ?_
  rw [z_sh_0 hmR]
  refine z_istore_n (L' := [(2, z_i (m : Int)), (0, z_r a), (1, z_i q)]) dJ5_ensureCapacityInternal_d00df_10 rfl (z_ltk rfl) rfl ?_
  refine z_iload_n 2 dJ5_ensureCapacityInternal_d00df_11 rfl rfl ?_
  refine z_iload_n 0 dJ5_ensureCapacityInternal_d00df_12 rfl rfl ?_
  refine z_isub dJ5_ensureCapacityInternal_d00df_13 ⟨by omega, by omega⟩ ?_
  refine z_if_le (tgt := 38) dJ5_ensureCapacityInternal_d00df_14 (by decide) (fun c => absurd c (by omega)) (fun _ => ?_)
  refine z_aload_n 1 dJ5_ensureCapacityInternal_d00df_17 rfl rfl ?_
  refine z_aload_n 1 dJ5_ensureCapacityInternal_d00df_18 rfl rfl ?_
  refine z_getR (r := v) zfRJ5_15 dJ5_ensureCapacityInternal_d00df_19 hs.1 rfl ?_
  refine z_aload_n 1 dJ5_ensureCapacityInternal_d00df_22 rfl rfl ?_
  refine z_iload_n 2 dJ5_ensureCapacityInternal_d00df_23 rfl rfl ?_
  refine z_callV (As := [z_i q]) (rest := [z_r v, z_r a]) zmJ5_newCapacity_0f7a4 znJ5_newCapacity_0f7a4 zsJ5_newCapacity_0f7a4 z_cl10 zlRJ5_104 ⟨Nat.le_of_ble_eq_true rfl, Nat.le_of_ble_eq_true rfl⟩ dJ5_ensureCapacityInternal_d00df_24 hs.1 rfl rfl (z_ai z_a0) (Nat.le_of_ble_eq_true rfl) (Nat.le_of_ble_eq_true rfl) ⟨rfl, rfl⟩ ?_
  refine t_J5_newCapacity hs h1 (by omega) ⟨hq.1, by omega⟩ ?_
  show z_Sem (mJ5_ensureCapacityInternal_d00df k) (sh.length, 0) 27 [(2, z_i (m : Int)), (0, z_r a), (1, z_i q)] [z_i ((m : Int) + max (q - m) (m + 2)), z_r v, z_r a] (sh, w) Q
  rw [← hn]
  refine z_aload_n 1 dJ5_ensureCapacityInternal_d00df_27 rfl rfl ?_
  refine z_getI (ki := 1) zfRJ5_22 dJ5_ensureCapacityInternal_d00df_28 hs.1 rfl rfl ?_
  show z_Sem (mJ5_ensureCapacityInternal_d00df k) (sh.length, 0) 31 [(2, z_i (m : Int)), (0, z_r a), (1, z_i q)] [z_i (w a 1), z_i (n : Int), z_r v, z_r a] (sh, w) Q
  rw [h1]
  refine z_ishl dJ5_ensureCapacityInternal_d00df_31 ?_
  rw [z_sl_0 ⟨by omega, by omega⟩]
  have hLv : z_lv sh.length [(2, z_i (m : Int)), (0, z_r a), (1, z_i q)] := by
    intro x hx
    simp only [List.mem_cons, List.not_mem_nil, or_false] at hx
    rcases hx with rfl | rfl | rfl
    · exact True.intro
    · exact Or.inl hal
    · exact True.intro
  refine z_callA (vs := [z_r v, z_i (n : Int)]) (rest := [z_r a]) (z_invS (M' := mJ7_copyOf_9075b n) zmJ7_copyOf_9075b ztJ7_copyOf_9075b zlRJ5_108 ⟨Nat.le_of_ble_eq_true rfl, Nat.le_of_ble_eq_true rfl⟩ dJ5_ensureCapacityInternal_d00df_32 rfl) zwJ7_copyOf_9075b.2.2.2.2 (fun _ _ _ _ _ _ _ _ _ _ _ => True.intro) rfl (z_ar (z_ai z_a0)) (Nat.le_of_ble_eq_true rfl) (Nat.le_of_ble_eq_true rfl) hLv (fun x hx => by rw [List.mem_singleton.mp hx]; exact Or.inl hal) (Nat.le_refl _) (by show k ≠ 0; omega) ⟨by show 0 + n ≤ k; omega, by show 0 + n ≤ k; omega⟩ ?_
  refine t_J7_copyOf hs.2 (by omega) (by omega) (Nat.le_refl _) hsl hlo hb (fun w' g1 g2 g3 => ?_)
  show z_Sem (mJ5_ensureCapacityInternal_d00df k) (sh.length, 0 + n) 35 [(2, z_i (m : Int)), (0, z_r a), (1, z_i q)] [z_r sh.length, z_r a] (sh ++ [.inr (.inl (2, n))], w') Q
  refine z_putR zoRJ5_15 (fun c => by cases c) (fun b => ⟨rfl, rfl⟩) dJ5_ensureCapacityInternal_d00df_35 (z_leftat hs.1) (z_ltk rfl) ?_
  show z_Sem _ _ _ _ _ (z_u (sh ++ [.inr (.inl (2, n))], w') a (z_sbc sh.length) (w' a)) Q
  rw [z_u_sh, List.set_append_left _ _ hal]
  exact z_ret (v := none) dJ5_ensureCapacityInternal_d00df_38 ⟨rfl, rfl⟩ rfl (h w' g1 g2 g3)
end ZJDK
