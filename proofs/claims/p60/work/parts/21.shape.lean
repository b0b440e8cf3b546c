def z_isLog (sh : List z_C) (a : Nat) : Prop := sh[a]? = some (.inl (1, [some (some (a + 1)), none, none])) ∧ sh[a + 1]? = some (.inr (.inl (0, 120)))
def z_isNet (sh : List z_C) (a : Nat) : Prop := sh[a]? = some (.inl (2, [some (some (a + 1)), some (some (a + 2)), some (some (a + 3)), some (some (a + 4)), some (some (a + 5)), none, none])) ∧ sh[a + 1]? = some (.inr (.inl (0, 60))) ∧ sh[a + 2]? = some (.inr (.inl (0, 60))) ∧ sh[a + 3]? = some (.inr (.inl (0, 60))) ∧ sh[a + 4]? = some (.inr (.inl (0, 60))) ∧ sh[a + 5]? = some (.inr (.inl (0, 100)))
def z_isPla (sh : List z_C) (a : Nat) : Prop := sh[a]? = some (.inl (3, [some (some (a + 1)), some (some (a + 2)), some (some (a + 3)), some (some (a + 4)), some (some (a + 5)), some (some (a + 6)), some (some (a + 7)), some (some (a + 8)), some (some (a + 9)), none, none, none])) ∧ sh[a + 1]? = some (.inr (.inl (0, 50))) ∧ sh[a + 2]? = some (.inr (.inl (0, 10))) ∧ sh[a + 3]? = some (.inr (.inl (0, 10))) ∧ sh[a + 4]? = some (.inr (.inl (0, 24))) ∧ sh[a + 5]? = some (.inr (.inl (0, 24))) ∧ sh[a + 6]? = some (.inr (.inl (0, 24))) ∧ sh[a + 7]? = some (.inr (.inl (0, 24))) ∧ sh[a + 8]? = some (.inr (.inl (1, 24))) ∧ z_isLog sh (a + 9)
def z_isTap (sh : List z_C) (a : Nat) : Prop := sh[a]? = some (.inl (6, [some (some (a + 1)), none])) ∧ sh[a + 1]? = some (.inr (.inl (0, 900)))
def z_isTex (sh : List z_C) (a : Nat) : Prop := sh[a]? = some (.inl (7, [some (some (a + 1)), none])) ∧ sh[a + 1]? = some (.inr (.inl (0, 1024)))
def z_isHis (sh : List z_C) (a : Nat) : Prop := sh[a]? = some (.inl (0, [some (some (a + 1)), none, none])) ∧ sh[a + 1]? = some (.inr (.inr ((List.range 8).map (fun k => some (a + 2 + 11 * k))))) ∧ (∀ k : Nat, k < 8 → z_isPla sh (a + 2 + 11 * k))
def z_isSlo (sh : List z_C) (a : Nat) : Prop := sh[a]? = some (.inl (5, [some (some (a + 1)), some (some (a + 2))])) ∧ sh[a + 2]? = some (.inr (.inl (1, 2))) ∧ sh[a + 1]? = some (.inr (.inr ((List.range 2).map (fun k => some (a + 3 + 11 * k))))) ∧ (∀ k : Nat, k < 2 → z_isPla sh (a + 3 + 11 * k))
def z_isRea (sh : List z_C) (a : Nat) : Prop := sh[a]? = some (.inl (4, [some (some (a + 1)), some (some (a + 3)), some (some (a + 14)), none, none, none])) ∧ z_isTap sh (a + 1) ∧ z_isPla sh (a + 3) ∧ z_isNet sh (a + 14)
def z_isTG (sh : List z_C) (a : Nat) : Prop := sh[a]? = some (.inl (8, [some (some (a + 1)), some (some (a + 12)), some (some (a + 18)), some (some (a + 24)), some (some (a + 114)), some (some (a + 139)), some (some (a + 140)), some (some (a + 159)), none])) ∧ z_isPla sh (a + 1) ∧ z_isNet sh (a + 12) ∧ z_isNet sh (a + 18) ∧ z_isHis sh (a + 24) ∧ z_isSlo sh (a + 114) ∧ z_isRea sh (a + 139) ∧ z_isTap sh (a + 140) ∧ z_isTex sh (a + 159)
theorem zl_cpRX1 : Cond.methodLink RX1 22 arraycopyName ∈ z_tb := zARX1_22
theorem zl_cpRX2 : Cond.methodLink RX2 101 arraycopyName ∈ z_tb := zARX2_101
theorem zl_cpRX3 : Cond.methodLink RX3 72 arraycopyName ∈ z_tb := zARX3_72
theorem zfs9 : Cond.fieldLink "java/lang/String" 9 "java/lang/String" "value" "[B" ∈ z_tb := z_w1 941 (by decide +kernel) (by decide +kernel)
theorem zfs15 : Cond.fieldLink "java/lang/String" 15 "java/lang/String" "coder" "B" ∈ z_tb := z_w1 942 (by decide +kernel) (by decide +kernel)

def z_W (w : Nat → Int → Int) (a : Nat) (i x : Int) : Nat → Int → Int := fun b j => if b = a ∧ j = i then x else w b j
def z_CP (w : Nat → Int → Int) (a0 : Nat) (sp : Int) (a : Nat) (dp n : Int) : Nat → Int → Int := fun b j => if b = a ∧ dp ≤ j ∧ j < dp + n then w a0 (sp + (j - dp)) else w b j
theorem z_W_same (w : Nat → Int → Int) (a : Nat) (i x : Int) : z_W w a i x a i = x := by simp [z_W]
theorem z_W_ne {w : Nat → Int → Int} {a b : Nat} {i j x : Int} (h : b ≠ a ∨ j ≠ i) : z_W w a i x b j = w b j := by
  have : ¬ (b = a ∧ j = i) := by omega
  simp [z_W, this]
theorem z_CP_ne {w : Nat → Int → Int} {a0 a b : Nat} {sp dp n j : Int} (h : b ≠ a ∨ j < dp ∨ dp + n ≤ j) : z_CP w a0 sp a dp n b j = w b j := by
  have : ¬ (b = a ∧ dp ≤ j ∧ j < dp + n) := by omega
  simp [z_CP, this]
theorem z_CP_in {w : Nat → Int → Int} {a0 a : Nat} {sp dp n j : Int} (h : dp ≤ j ∧ j < dp + n) : z_CP w a0 sp a dp n a j = w a0 (sp + (j - dp)) := by simp [z_CP, h]
/-- a call with an int, a call without an answer -/
def z_CI (M' : z_M) (vs : List z_V) (sh : List z_C) (w : Nat → Int → Int) (K : Int → (Nat → Int → Int) → Prop) : Prop := z_Sem M' (sh.length, 0) 0 (z_la 0 vs) [] (sh, w) (fun r σ => ∃ (x : Int) (w' : Nat → Int → Int), r = some (z_i x) ∧ σ = (sh, w') ∧ K x w')
def z_CV (M' : z_M) (vs : List z_V) (sh : List z_C) (w : Nat → Int → Int) (K : (Nat → Int → Int) → Prop) : Prop := z_Sem M' (sh.length, 0) 0 (z_la 0 vs) [] (sh, w) (fun r σ => ∃ (w' : Nat → Int → Int), r = none ∧ σ = (sh, w') ∧ K w')
theorem z_Sem.mono {M : z_M} {nz : Nat × Nat} {pc : Nat} {L : List (Nat × z_V)} {st : List z_V} {σ : z_S} {Q Q' : Option z_V → z_S → Prop} (h : z_Sem M nz pc L st σ Q) (hq : ∀ v σ', Q v σ' → Q' v σ') : z_Sem M nz pc L st σ Q' := by
  intro G p l e s m args below meth c Z H locs ls hX hZ hP hL hS hl hc
  exact h G p l e s m args below meth c Z H locs ls hX (fun G' v σ' H' locs' z' pc ls' ins hag hQ => hZ G' v σ' H' locs' z' pc ls' ins hag (hq v σ' hQ)) hP hL hS hl hc
theorem z_CIm {M' : z_M} {vs : List z_V} {sh : List z_C} {w : Nat → Int → Int} {K : Int → (Nat → Int → Int) → Prop} {Q' : Option z_V → z_S → Prop} (h : z_CI M' vs sh w K) (k : ∀ x w', K x w' → Q' (some (z_i x)) (sh, w')) : z_Sem M' (sh.length, 0) 0 (z_la 0 vs) [] (sh, w) Q' := by
  refine z_Sem.mono h (fun v σ' hQ => ?_)
  obtain ⟨x, w', rfl, rfl, hk⟩ := hQ
  exact k x w' hk
theorem z_CVm {M' : z_M} {vs : List z_V} {sh : List z_C} {w : Nat → Int → Int} {K : (Nat → Int → Int) → Prop} {Q' : Option z_V → z_S → Prop} (h : z_CV M' vs sh w K) (k : ∀ w', K w' → Q' none (sh, w')) : z_Sem M' (sh.length, 0) 0 (z_la 0 vs) [] (sh, w) Q' := by
  refine z_Sem.mono h (fun v σ' hQ => ?_)
  obtain ⟨w', rfl, rfl, hk⟩ := hQ
  exact k w' hk
theorem z_nam {M : z_M} {nz : Nat × Nat} {pc : Nat} {L : List (Nat × z_V)} {st : List z_V} {σ : z_S} {Q : Option z_V → z_S → Prop} {x : Int} (k : ∀ y : Int, y = x → z_Sem M nz pc L (z_i y :: st) σ Q) : z_Sem M nz pc L (z_i x :: st) σ Q := k x rfl
theorem z_genw {M : z_M} {nz : Nat × Nat} {pc : Nat} {L : List (Nat × z_V)} {st : List z_V} {Q : Option z_V → z_S → Prop} {sh : List z_C} {w : Nat → Int → Int} {a : Nat} {i x : Int} (k : ∀ w1 : Nat → Int → Int, w1 = z_W w a i x → z_Sem M nz pc L st (sh, w1) Q) : z_Sem M nz pc L st (z_w (sh, w) a i x) Q := k _ rfl
theorem z_genc {M : z_M} {nz : Nat × Nat} {pc : Nat} {L : List (Nat × z_V)} {st : List z_V} {Q : Option z_V → z_S → Prop} {sh : List z_C} {w : Nat → Int → Int} {a0 a : Nat} {sp dp n : Int} (k : ∀ w1 : Nat → Int → Int, w1 = z_CP w a0 sp a dp n → z_Sem M nz pc L st (sh, w1) Q) : z_Sem M nz pc L st (z_cp (sh, w) a0 sp a dp n) Q := k _ rfl
theorem z_ral {n k : Nat} {f : Nat → Option Nat} (h : k < n) : ((List.range n).map f)[k]? = some (f k) := by simp [h]
theorem z_it01 {c : Prop} [Decidable c] {a b : Int} (ha : 0 ≤ a ∧ a ≤ 1) (hb : 0 ≤ b ∧ b ≤ 1) : 0 ≤ (if c then a else b) ∧ (if c then a else b) ≤ 1 := by split; exact ha; exact hb
theorem z_a0 : ∀ v ∈ ([] : List z_V), z_c1 v := fun _ h => by cases h
theorem z_ai {x : Int} {vs : List z_V} (h : ∀ v ∈ vs, z_c1 v) : ∀ v ∈ z_i x :: vs, z_c1 v := List.forall_mem_cons.mpr ⟨True.intro, h⟩
theorem z_ar {x : Nat} {vs : List z_V} (h : ∀ v ∈ vs, z_c1 v) : ∀ v ∈ z_r x :: vs, z_c1 v := List.forall_mem_cons.mpr ⟨True.intro, h⟩
theorem z_ax {v : z_V} {vs : List z_V} (hv : z_c1 v) (h : ∀ u ∈ vs, z_c1 u) : ∀ u ∈ v :: vs, z_c1 u := List.forall_mem_cons.mpr ⟨hv, h⟩
theorem z_lkd {x d : Int} : ∀ {l : List (Int × Int)}, (∀ q ∈ l, q.1 ≠ x) → Op.lookupswitch.offset l d x = d
  | [], _ => rfl
  | (a, o) :: l, h => by
    rw [Op.lookupswitch.offset_cons, if_neg (h (a, o) List.mem_cons_self)]
    exact z_lkd (fun r hr => h r (List.mem_cons_of_mem _ hr))
/-! String constants' methods -/
def z_chr (i : Nat) (j : Int) : Int := ((z_byt.getD i []).getD j.toNat 0).toInt
def f_J0_length_8abf5 (w : Nat → Int → Int) (s0 : Nat) : Int := ((z_len.getD s0 0 : Nat) : Int)
def f_J0_charAt_5068e (w : Nat → Int → Int) (s0 : Nat) (x1 : Int) : Int := z_chr s0 x1
def s_J0_charAt_5068e (w : Nat → Int → Int) (s0 : Nat) (x1 : Int) : Prop := (0 ≤ x1 ∧ x1 < f_J0_length_8abf5 w s0) ∧ True
theorem z_len7 : ∀ i : Nat, i < 35 → z_len.getD i 0 ≤ 7 ∧ z_shr (z_len.getD i 0 : Nat) 0 = (z_len.getD i 0 : Nat) := by decide +kernel
theorem z_chrs : ∀ i : Nat, i < 35 → ∀ j : Nat, j < 7 → (z_byt.getD i []).getD j 0 = Int32.ofInt (z_chr i (j : Int)) ∧ z_i2cv (z_and (z_chr i (j : Int)) 255) = z_chr i (j : Int) ∧ 0 ≤ z_chr i (j : Int) ∧ z_chr i (j : Int) ≤ 255 := by decide +kernel
section ZSTR
variable {sh : List z_C} {w : Nat → Int → Int} {Q : Option z_V → z_S → Prop}
theorem t_J0_coder {s0 : Nat} (hs0 : s0 < 35) (h : Q (some (z_i 0)) (sh, w)) : z_Sem mJ0_coder_7d493 (sh.length, 0) 0 [(0, z_r (1001 + s0))] [] (sh, w) Q := by
  refine z_getCS zgRJ0_38 dJ0_coder_7d493_0 ?_
  refine z_if_eq (tgt := 13) dJ0_coder_7d493_3 (by decide) (fun c => absurd c (by decide)) (fun _ => ?_)
  refine z_aload_n 0 dJ0_coder_7d493_6 rfl rfl ?_
  refine z_strcod hs0 rfl zfs15 dJ0_coder_7d493_7 ?_
  refine z_goto (tgt := 14) dJ0_coder_7d493_10 (by decide) ?_
  exact z_ret (v := some (z_i 0)) dJ0_coder_7d493_14 ⟨rfl, Or.inr (Or.inr (Or.inr ⟨rfl, by decide⟩))⟩ rfl h
theorem t_J0_isLatin1 {s0 : Nat} (hs0 : s0 < 35) (h : Q (some (z_i 1)) (sh, w)) : z_Sem mJ0_isLatin1_aae02 (sh.length, 0) 0 [(0, z_r (1001 + s0))] [] (sh, w) Q := by
  refine z_getCS zgRJ0_38 dJ0_isLatin1_aae02_0 ?_
  refine z_if_eq (tgt := 17) dJ0_isLatin1_aae02_3 (by decide) (fun c => absurd c (by decide)) (fun _ => ?_)
  refine z_aload_n 0 dJ0_isLatin1_aae02_6 rfl rfl ?_
  refine z_strcod hs0 rfl zfs15 dJ0_isLatin1_aae02_7 ?_
  refine z_if_ne (tgt := 17) dJ0_isLatin1_aae02_10 (by decide) (fun c => absurd rfl c) (fun _ => ?_)
  refine z_iconst dJ0_isLatin1_aae02_13 (by decide) ?_
  refine z_goto (tgt := 18) dJ0_isLatin1_aae02_14 (by decide) ?_
  exact z_ret (v := some (z_i 1)) dJ0_isLatin1_aae02_18 ⟨rfl, Or.inr (Or.inl ⟨rfl, by decide⟩)⟩ rfl h
theorem t_J0_length_8abf5 {s0 : Nat} (hs0 : s0 < 35) (h : Q (some (z_i (f_J0_length_8abf5 w s0))) (sh, w)) : z_Sem mJ0_length_8abf5 (sh.length, 0) 0 [(0, z_r (1001 + s0))] [] (sh, w) Q := by
  have h7 := z_len7 s0 hs0
  refine z_aload_n 0 dJ0_length_8abf5_0 rfl rfl ?_
  refine z_strval (fin := ()) hs0 rfl zfs9 dJ0_length_8abf5_1 ?_
  refine z_strlen hs0 dJ0_length_8abf5_4 ⟨by omega, by omega⟩ ?_
  refine z_aload_n 0 dJ0_length_8abf5_5 rfl rfl ?_
  refine z_callVS (i := s0) (As := []) (rest := [z_i ((z_len.getD s0 0 : Nat) : Int)]) hs0 zmJ0_coder_7d493 znJ0_coder_7d493 zsJ0_coder_7d493 zlRJ0_335 ⟨Nat.le_of_ble_eq_true rfl, Nat.le_of_ble_eq_true rfl⟩ dJ0_length_8abf5_6 rfl rfl z_a0 (Nat.le_of_ble_eq_true rfl) (Nat.le_of_ble_eq_true rfl) ⟨rfl, rfl⟩ ?_
  refine t_J0_coder hs0 ?_
  show z_Sem mJ0_length_8abf5 (sh.length, 0) 9 [(0, z_r (1001 + s0))] [z_i 0, z_i ((z_len.getD s0 0 : Nat) : Int)] (sh, w) Q
  refine z_ishr dJ0_length_8abf5_9 ?_
  rw [h7.2]
  exact z_ret (v := some (z_i ((z_len.getD s0 0 : Nat) : Int))) dJ0_length_8abf5_10 ⟨rfl, Or.inl rfl⟩ rfl h
theorem t_J3_check {x0 x1 : Int} {v : z_V} (h1 : 0 ≤ x0 ∧ x0 < x1) (h : Q (some (z_i x0)) (sh, w)) : z_Sem mJ3_checkIndex_8e157 (sh.length, 0) 0 [(0, z_i x0), (1, z_i x1), (2, v)] [] (sh, w) Q := by
  refine z_iload_n 0 dJ3_checkIndex_8e157_0 rfl rfl ?_
  refine z_if_lt (tgt := 9) dJ3_checkIndex_8e157_1 (by decide) (fun c => absurd c (by omega)) (fun _ => ?_)
  refine z_iload_n 0 dJ3_checkIndex_8e157_4 rfl rfl ?_
  refine z_iload_n 1 dJ3_checkIndex_8e157_5 rfl rfl ?_
  refine z_icmp_lt (tgt := 16) dJ3_checkIndex_8e157_6 (by decide) (fun _ => ?_) (fun c => absurd h1.2 c)
  refine z_iload_n 0 dJ3_checkIndex_8e157_16 rfl rfl ?_
  exact z_ret (v := some (z_i x0)) dJ3_checkIndex_8e157_17 ⟨rfl, Or.inl rfl⟩ rfl h
theorem t_J0_check {x0 x1 : Int} (h1 : 0 ≤ x0 ∧ x0 < x1) (h : Q none (sh, w)) : z_Sem mJ0_checkIndex_df160 (sh.length, 0) 0 [(0, z_i x0), (1, z_i x1)] [] (sh, w) Q := by
  refine z_iload_n 0 dJ0_checkIndex_df160_0 rfl rfl ?_
  refine z_iload_n 1 dJ0_checkIndex_df160_1 rfl rfl ?_
  refine z_getSF rfl zgRJ0_1053 dJ0_checkIndex_df160_2 (fun v hv1 hv2 => ?_)
  refine z_callS (As := [z_i x0, z_i x1, v]) (rest := []) zmJ3_checkIndex_8e157 ztJ3_checkIndex_8e157 zlRJ0_1059 ⟨Nat.le_of_ble_eq_true rfl, Nat.le_of_ble_eq_true rfl⟩ dJ0_checkIndex_df160_5 rfl rfl (z_ai (z_ai (z_ax hv1 z_a0))) (Nat.le_of_ble_eq_true rfl) (Nat.le_of_ble_eq_true rfl) ⟨rfl, rfl⟩ ?_
  refine t_J3_check h1 ?_
  show z_Sem mJ0_checkIndex_df160 (sh.length, 0) 8 [(0, z_i x0), (1, z_i x1)] [z_i x0] (sh, w) Q
  refine z_pop dJ0_checkIndex_df160_8 rfl ?_
  exact z_ret (v := none) dJ0_checkIndex_df160_9 ⟨rfl, rfl⟩ rfl h
theorem t_J1_charAt {s0 : Nat} {x1 : Int} (hs0 : s0 < 35) (h1 : 0 ≤ x1 ∧ x1 < (z_len.getD s0 0 : Nat)) (h : Q (some (z_i (z_chr s0 x1))) (sh, w)) : z_Sem mJ1_charAt_3b067 (sh.length, 0) 0 [(0, z_r (1101 + s0)), (1, z_i x1)] [] (sh, w) Q := by
  have h7 := z_len7 s0 hs0
  have hc := z_chrs s0 hs0 x1.toNat (by omega)
  rw [show ((x1.toNat : Nat) : Int) = x1 by omega] at hc
  refine z_iload_n 1 dJ1_charAt_3b067_0 rfl rfl ?_
  refine z_aload_n 0 dJ1_charAt_3b067_1 rfl rfl ?_
  refine z_strlen hs0 dJ1_charAt_3b067_2 ⟨by omega, by omega⟩ ?_
  refine z_callS (As := [z_i x1, z_i ((z_len.getD s0 0 : Nat) : Int)]) (rest := []) zmJ0_checkIndex_df160 ztJ0_checkIndex_df160 zlRJ1_9 ⟨Nat.le_of_ble_eq_true rfl, Nat.le_of_ble_eq_true rfl⟩ dJ1_charAt_3b067_3 rfl rfl (z_ai (z_ai z_a0)) (Nat.le_of_ble_eq_true rfl) (Nat.le_of_ble_eq_true rfl) ⟨rfl, rfl⟩ ?_
  refine t_J0_check h1 ?_
  show z_Sem mJ1_charAt_3b067 (sh.length, 0) 6 [(0, z_r (1101 + s0)), (1, z_i x1)] [] (sh, w) Q
  refine z_aload_n 0 dJ1_charAt_3b067_6 rfl rfl ?_
  refine z_iload_n 1 dJ1_charAt_3b067_7 rfl rfl ?_
  refine z_strald hs0 dJ1_charAt_3b067_8 h1 hc.1 ⟨by omega, by omega⟩ ?_
  refine z_sipush dJ1_charAt_3b067_9 (by decide) (by decide) ?_
  refine z_iand dJ1_charAt_3b067_12 ?_
  refine z_i2c dJ1_charAt_3b067_13 ?_
  rw [hc.2.1]
  exact z_ret (v := some (z_i (z_chr s0 x1))) dJ1_charAt_3b067_14 ⟨rfl, Or.inr (Or.inr (Or.inl ⟨rfl, by omega, by omega⟩))⟩ rfl h
theorem t_J0_charAt_5068e {s0 : Nat} {x1 : Int} (hs0 : s0 < 35) (hs : s_J0_charAt_5068e w s0 x1) (h : Q (some (z_i (f_J0_charAt_5068e w s0 x1))) (sh, w)) : z_Sem mJ0_charAt_5068e (sh.length, 0) 0 [(0, z_r (1001 + s0)), (1, z_i x1)] [] (sh, w) Q := by
  have h7 := z_len7 s0 hs0
  have h1 : 0 ≤ x1 ∧ x1 < (z_len.getD s0 0 : Nat) := hs.1
  have hc := z_chrs s0 hs0 x1.toNat (by omega)
  rw [show ((x1.toNat : Nat) : Int) = x1 by omega] at hc
  refine z_aload_n 0 dJ0_charAt_5068e_0 rfl rfl ?_
  refine z_callVS (i := s0) (As := []) (rest := []) hs0 zmJ0_isLatin1_aae02 znJ0_isLatin1_aae02 zsJ0_isLatin1_aae02 zlRJ0_492 ⟨Nat.le_of_ble_eq_true rfl, Nat.le_of_ble_eq_true rfl⟩ dJ0_charAt_5068e_1 rfl rfl z_a0 (Nat.le_of_ble_eq_true rfl) (Nat.le_of_ble_eq_true rfl) ⟨rfl, rfl⟩ ?_
  refine t_J0_isLatin1 hs0 ?_
  show z_Sem mJ0_charAt_5068e (sh.length, 0) 4 [(0, z_r (1001 + s0)), (1, z_i x1)] [z_i 1] (sh, w) Q
  refine z_if_eq (tgt := 16) dJ0_charAt_5068e_4 (by decide) (fun c => absurd c (by decide)) (fun _ => ?_)
  refine z_aload_n 0 dJ0_charAt_5068e_7 rfl rfl ?_
  refine z_strval (fin := ()) hs0 rfl zfs9 dJ0_charAt_5068e_8 ?_
  refine z_iload_n 1 dJ0_charAt_5068e_11 rfl rfl ?_
  refine z_callS (As := [z_r (1101 + s0), z_i x1]) (rest := []) zmJ1_charAt_3b067 ztJ1_charAt_3b067 zlRJ0_495 ⟨Nat.le_of_ble_eq_true rfl, Nat.le_of_ble_eq_true rfl⟩ dJ0_charAt_5068e_12 rfl rfl (z_ar (z_ai z_a0)) (Nat.le_of_ble_eq_true rfl) (Nat.le_of_ble_eq_true rfl) ⟨rfl, rfl⟩ ?_
  refine t_J1_charAt hs0 h1 ?_
  show z_Sem mJ0_charAt_5068e (sh.length, 0) 15 [(0, z_r (1001 + s0)), (1, z_i x1)] [z_i (z_chr s0 x1)] (sh, w) Q
  exact z_ret (v := some (z_i (z_chr s0 x1))) dJ0_charAt_5068e_15 ⟨rfl, Or.inr (Or.inr (Or.inl ⟨rfl, by omega, by omega⟩))⟩ rfl h
end ZSTR

