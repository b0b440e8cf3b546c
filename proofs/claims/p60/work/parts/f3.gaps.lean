/-! WHAT IS TOLD AHEAD OF A GAP -/
theorem z_and15 (x : Int) : 0 ≤ z_and x 32767 ∧ z_and x 32767 ≤ 32767 := by
  have h : z_and x 32767 = ((Int32.ofInt x).toBitVec &&& (Int32.ofInt 32767).toBitVec).toInt := rfl
  have hm : (Int32.ofInt 32767).toBitVec.toNat = 2 ^ 15 - 1 := by decide
  have h2 : ((Int32.ofInt x).toBitVec &&& (Int32.ofInt 32767).toBitVec).toNat = (Int32.ofInt x).toBitVec.toNat % 2 ^ 15 := by rw [BitVec.toNat_and, hm, Nat.and_two_pow_sub_one_eq_mod]
  rw [h, BitVec.toInt_eq_toNat_cond, h2]
  have := Nat.mod_lt (Int32.ofInt x).toBitVec.toNat (show 0 < 2 ^ 15 by decide)
  rw [if_pos (by omega)]
  omega
/-- row a2 holds t, the object holds plan B and history H -/
def z_LX (a2 : Nat) (t : List Int) (w : z_Mm) (B : z_A) (H : List z_A) (T : z_T) (er : Int) (s : Nat → Option z_A) : Prop := z_JC w B H T er s ∧ z_tx w a2 t
theorem z_rsa_ro {B : z_A} : ∀ k : Nat, z_rsa (z_dd B (-1)) k = z_ro B k
  | 0 => rfl
  | k + 1 => by rw [z_rsa, z_ro, z_rsa_ro k]
theorem z_cg_2 {B : z_A} {d : Int → Int → Int} {n : Int} : z_cg d (z_dd B (-1)) n 2 = z_ro B n.toNat := by
  rw [z_cg, if_neg (by decide), if_neg (by decide), z_rsa_ro]
theorem z_ct_le {p q : Int → Prop} (h : ∀ e : Int, p e → q e) : ∀ k : Nat, z_ct p k ≤ z_ct q k
  | 0 => Int.le_refl _
  | k + 1 => by
    have := z_ct_le h k
    rw [z_ct, z_ct]
    by_cases c : p (k : Int)
    · rw [if_pos c, if_pos (h _ c)]; omega
    · rw [if_neg c]; split <;> omega
theorem z_ct_or {p q r : Int → Prop} (h : ∀ e : Int, p e → q e ∨ r e) : ∀ k : Nat, z_ct p k ≤ z_ct q k + z_ct r k
  | 0 => Int.le_refl _
  | k + 1 => by
    have := z_ct_or h k
    rw [z_ct, z_ct, z_ct]
    by_cases c : p (k : Int)
    · rw [if_pos c]
      rcases h _ c with c1 | c1
      · rw [if_pos c1]; split <;> omega
      · rw [if_pos c1]; split <;> omega
    · rw [if_neg c]; split <;> split <;> omega
theorem z_ct_1 {p : Int → Prop} (h : p 0) : ∀ k : Nat, 1 ≤ k → 1 ≤ z_ct p k
  | 0, c => absurd c (by decide)
  | 1, _ => by
    show 1 ≤ (0 : Int) + @ite _ (p ((0 : Nat) : Int)) (Classical.propDecidable _) 1 0
    rw [if_pos (show p ((0 : Nat) : Int) from h)]
    decide
  | k + 2, _ => by
    have := z_ct_1 h (k + 1) (by omega)
    rw [z_ct]
    split <;> omega
/-- as many bounds change as events' times -/
theorem z_oba_ge {d d' : Int → Int → Int} {n : Nat} (h0 : d 0 0 = d' 0 0) (hn : 1 ≤ n) : ∀ k : Nat, 1 ≤ k → z_ct (fun j => ¬ d 0 j = d' 0 j) n + z_ct (fun j => ¬ d j 0 = d' j 0) k ≤ z_oba d d' n k
  | 0, c => absurd c (by decide)
  | 1, _ => by
    have e : z_ct (fun j => ¬ d j 0 = d' j 0) 1 = 0 := by
      show (0 : Int) + @ite _ (¬ d ((0 : Nat) : Int) 0 = d' ((0 : Nat) : Int) 0) (Classical.propDecidable _) 1 0 = 0
      rw [if_neg (fun c => c h0)]
      rfl
    rw [e]
    show _ ≤ (0 : Int) + z_ct (fun j => ¬ d ((0 : Nat) : Int) j = d' ((0 : Nat) : Int) j) n
    show z_ct (fun j => ¬ d 0 j = d' 0 j) n + 0 ≤ (0 : Int) + z_ct (fun j => ¬ d 0 j = d' 0 j) n
    omega
  | k + 2, _ => by
    have ih := z_oba_ge h0 hn (k + 1) (by omega)
    rw [z_oba, z_ct]
    by_cases c : ¬ d ((k + 1 : Nat) : Int) 0 = d' ((k + 1 : Nat) : Int) 0
    · have := z_ct_1 (p := fun j => ¬ d ((k + 1 : Nat) : Int) j = d' ((k + 1 : Nat) : Int) j) c n hn
      rw [if_pos c]
      omega
    · have := z_ct_R (p := fun j => ¬ d ((k + 1 : Nat) : Int) j = d' ((k + 1 : Nat) : Int) j) n
      rw [if_neg c]
      omega
theorem z_cg_01 {d d' : Int → Int → Int} {n : Int} (h0 : d 0 0 = d' 0 0) (hn : 1 ≤ n ∧ n ≤ 10) : 0 ≤ z_cg d d' n 0 ∧ z_cg d d' n 1 ≤ z_cg d d' n 0 := by
  have h1 := z_oba_R (d := d) (d' := d') (n := n.toNat) n.toNat (by omega) (by omega)
  have h2 := z_oba_ge h0 (by omega) n.toNat (n := n.toNat) (by omega)
  have h3 := z_ct_or (p := z_otp d d') (q := fun j => ¬ d 0 j = d' 0 j) (r := fun j => ¬ d j 0 = d' j 0) (fun e he => by
    by_cases c : d 0 e = d' 0 e
    · exact Or.inr (fun c2 => he ⟨c2, c⟩)
    · exact Or.inl c) n.toNat
  show 0 ≤ z_oba d d' n.toNat n.toNat ∧ z_ct (z_otp d d') n.toNat ≤ z_oba d d' n.toNat n.toNat
  omega
section ZLAW3
variable {sh : List z_C} {w w0 : z_Mm} {Q : Option z_V → z_S → Prop} {A B : z_A} {H : List z_A} {T : z_T} {er : Int} {s : Nat → Option z_A} {a1 a2 a3 : Nat} {t : List Int}
theorem z_note_F {x y z : Int} {lo : Int} {f : Int → Int} : z_F (z_note A x y z) lo f ↔ z_F A lo f := ⟨fun h => (z_eqg_note A x y z).symm.F h, fun h => (z_eqg_note A x y z).F h⟩
theorem z_note_dd {x y z lo a b : Int} (hA : z_okg A) : z_dd (z_note A x y z) lo a b = z_dd A lo a b := by
  unfold z_dd
  rw [← (z_eqg_note A x y z).Sx hA lo, z_note_lt (by decide)]
theorem z_LX.go {M' : z_M} {vs : List z_V} {v : Int} {A' : z_A} {H' : List z_A} {T' : z_T} {er' : Int} {s' : Nat → Option z_A} {K : Int → z_Mm → Prop} (hl : z_LX a2 t w A H T er s) (hu : z_uc M' vs A H T er s v A' H' T' er' s') (hT : z_isTG sh 0) (ha : 161 ≤ a2) (k : ∀ w', z_LX a2 t w' A' H' T' er' s' → K v w') : z_CI M' vs sh w K :=
  hu sh w K hT hl.1 (fun w' h1 f => k w' ⟨h1, hl.2.cg (f a2 ha)⟩)
theorem z_LX.draw {K : Int → z_Mm → Prop} (hl : z_LX a2 t w A H T er s) (hh : sh[a1]? = some (.inr (.inl (0, 8)))) (h1 : 161 ≤ a1) (h12 : a1 ≠ a2) (k : ∀ y w', 0 ≤ y ∧ y ≤ 32767 → z_LX a2 t w' A H T er s → K y w') : z_CI mL_draw [z_r a1] sh w K :=
  z_CIi (t_L_draw hh (fun w1 e1 => ⟨_, _, rfl, rfl, k _ w1 (z_and15 _) (by
    subst e1
    exact ⟨hl.1.fr (fun a ha _ => z_Wf (by omega)), hl.2.cg (z_Wf (fun c => h12 c.symm))⟩)⟩))
theorem z_LX.isAs {K : Int → z_Mm → Prop} (hl : z_LX a2 (z_tl A) w A H T er s) (hT : z_isTG sh 0) (hh2 : sh[a2]? = some (.inr (.inl (0, 400)))) (hh3 : sh[a3]? = some (.inr (.inl (0, 400)))) (h2 : 161 ≤ a2) (h3 : 161 ≤ a3) (h23 : a2 ≠ a3) (k : ∀ w', z_LX a2 (z_tl A) w' A H T er s → K 1 w') : z_CI mL_isAs [z_r 0, z_r a2, z_i ((z_tl A).length : Int), z_r a3] sh w K :=
  L_isAs hT h3 hh2 hh3 hl.1 h23 h2 hl.2 (fun w' h1 f => k w' ⟨h1, hl.2.cg (f a2 h2 h23)⟩)
theorem z_LX.tells {K : Int → z_Mm → Prop} (hl : z_JC w A H T er s) (hT : z_isTG sh 0) (hh2 : sh[a2]? = some (.inr (.inl (0, 400)))) (h2 : 161 ≤ a2) (k : ∀ w', z_LX a2 (z_tl A) w' A H T er s → K ((z_tl A).length : Int) w') : z_CI mL_tells [z_r 0, z_r a2] sh w K :=
  L_tells hT h2 hh2 hl (fun w' h => k w' ⟨h.1, h.2.1⟩)
theorem z_undo_p {A B : z_A} {H : List z_A} : ∃ (v : Int) (H1 : List z_A), 0 ≤ v ∧ z_dundo B (z_push H A) = (v, A, H1) := ⟨_, _, Int.natCast_nonneg _, z_dundo_1⟩
theorem z_LX.undo {K : Int → z_Mm → Prop} (hl : z_LX a2 t w B (z_push H A) T er s) (hT : z_isTG sh 0) (ha : 161 ≤ a2) (k : ∀ v H1 w', 0 ≤ v → z_LX a2 t w' A H1 T er s → K v w') : z_CI mX8_undo [z_r 0] sh w K := by
  obtain ⟨v, H1, h0, e⟩ := z_undo_p (A := A) (B := B) (H := H)
  have hu : z_uc mX8_undo [z_r 0] B (z_push H A) T er s v A H1 T er s := by
    have := uc_undo (A := B) (H := z_push H A) (T := T) (er := er) (s := s)
    rw [e] at this
    exact this
  exact hl.go hu hT ha (fun w' h => k v H1 w' h0 h)
/-- a gap can be told -/
theorem z_dtell_y {one oth kd n : Int} (hA : z_ok A) (ht : z_tll A one oth kd n) (h24 : ¬ A 2 0 = 24) (hr : 0 ≤ z_lr A (-1) one oth kd n) : z_dtell A H one oth kd n = (A 2 0, z_note (z_add A one oth kd n 1) 1 (A 2 0) n, z_push H A) := by
  have ht' := ht
  unfold z_tll at ht'
  rw [z_dtell, if_pos ht', if_neg h24, if_pos ((z_tell_iff hA.1 hA.2.1 ht.1 ht.2.1).mpr hr)]
theorem z_dtell_n {one oth kd n : Int} (hA : z_ok A) (ht : z_tll A one oth kd n) (h24 : ¬ A 2 0 = 24) (hr : ¬ 0 ≤ z_lr A (-1) one oth kd n) : z_dtell A H one oth kd n = (-5, z_note A 8 kd n, z_push H A) := by
  have ht' := ht
  unfold z_tll at ht'
  rw [z_dtell, if_pos ht', if_neg h24, if_neg (fun c => hr ((z_tell_iff hA.1 hA.2.1 ht.1 ht.2.1).mp c))]
theorem uc_tell_y {one oth kd n : Int} (hA : z_ok A) (ht : z_tll A one oth kd n) (h24 : ¬ A 2 0 = 24) (hr : 0 ≤ z_lr A (-1) one oth kd n) : z_uc mX8_tell [z_r 0, z_i one, z_i oth, z_i kd, z_i n] A H T er s (A 2 0) (z_note (z_add A one oth kd n 1) 1 (A 2 0) n) (z_push H A) T er s := by
  have := uc_tell (A := A) (H := H) (T := T) (er := er) (s := s) (one := one) (oth := oth) (kd := kd) (n := n)
  rw [z_dtell_y hA ht h24 hr] at this
  exact this
theorem uc_tell_n {one oth kd n : Int} (hA : z_ok A) (ht : z_tll A one oth kd n) (h24 : ¬ A 2 0 = 24) (hr : ¬ 0 ≤ z_lr A (-1) one oth kd n) : z_uc mX8_tell [z_r 0, z_i one, z_i oth, z_i kd, z_i n] A H T er s (-5) (z_note A 8 kd n) (z_push H A) T er s := by
  have := uc_tell (A := A) (H := H) (T := T) (er := er) (s := s) (one := one) (oth := oth) (kd := kd) (n := n)
  rw [z_dtell_n hA ht h24 hr] at this
  exact this
theorem z_add_F {one oth kd n x y z : Int} (hA : z_okg A) {f : Int → Int} : z_F (z_note (z_add A one oth kd n 1) x y z) (-1) f ↔ z_Fe (z_S1p A one oth kd n) f := by
  rw [z_note_F, z_F_add hA.2.2.1.1, z_S1p, z_Fe, List.forall_mem_cons]
  constructor
  · rintro ⟨h1, h2⟩
    exact ⟨h2, (z_F_iff hA).mpr h1⟩
  · rintro ⟨h1, h2⟩
    exact ⟨(z_F_iff hA).mp h2, h1⟩
theorem z_add_dd {one oth kd n x y z a b : Int} (hA : z_ok A) (ht : z_tll A one oth kd n) (hr : 0 ≤ z_lr A (-1) one oth kd n) (hB : z_ok (z_note (z_add A one oth kd n 1) x y z)) (ha : z_bl (A 1 0) a) (hb : z_bl (A 1 0) b) : z_Dd (z_S1p A one oth kd n) (A 1 0) a b = z_dd (z_note (z_add A one oth kd n 1) x y z) (-1) a b :=
  z_dd_F hB.1 hB.2.1 (by rw [z_note_lt (by decide), z_add_lt (by decide)]) (z_S1p_sv hA.1 hA.2.1 ht.1 ht.2.1 hr) (fun x => (z_add_F hA.1).symm) ha hb
/-- the other bound is as it was -/
theorem z_add_b {one oth kd n x y z : Int} (hA : z_ok A) (ht : z_tll A one oth kd n) (hr : 0 ≤ z_lr A (-1) one oth kd n) (hB : z_ok (z_note (z_add A one oth kd n 1) x y z)) : z_dd (z_note (z_add A one oth kd n 1) x y z) (-1) (if kd = 0 then oth else one) (if kd = 0 then one else oth) = z_dd A (-1) (if kd = 0 then oth else one) (if kd = 0 then one else oth) := by
  have e1 : z_note (z_add A one oth kd n 1) x y z 1 0 = A 1 0 := by rw [z_note_lt (by decide), z_add_lt (by decide)]
  have hp : z_bl (A 1 0) (if kd = 0 then oth else one) := by split; exact ht.2.1; exact ht.1
  have hq : z_bl (A 1 0) (if kd = 0 then one else oth) := by split; exact ht.1; exact ht.2.1
  have hd := z_isd hA.1 hA.2.1 (-1)
  have hdB := z_isd hB.1 hB.2.1 (-1)
  rw [e1] at hdB
  obtain ⟨h1, f, hf, ef⟩ := hd _ _ hp hq
  obtain ⟨h2, g, hg, eg⟩ := hdB _ _ hp hq
  have hgA : z_Fe (z_Sx A (-1)) g := ((List.forall_mem_cons.mp ((z_add_F hA.1).mp ((z_F_iff hB.1).mp hg))).2)
  have i1 := h1 g hgA
  have hfB : z_Fe (z_Sx (z_note (z_add A one oth kd n 1) x y z) (-1)) f := (z_F_iff hB.1).mpr ((z_add_F hA.1).mpr (List.forall_mem_cons.mpr ⟨by
    show f (if kd = 0 then oth else one) - f (if kd = 0 then one else oth) ≤ (if kd = 0 then n else -n)
    have : z_lr A (-1) one oth kd n = (if kd = 0 then n else -n) + z_dd A (-1) (if kd = 0 then oth else one) (if kd = 0 then one else oth) := rfl
    omega, hf⟩))
  have i2 := h2 f hfB
  omega
theorem z_ti_lr {one oth kd : Int} (hA : z_ok A) (h1 : z_bl (A 1 0) one) (h2 : z_bl (A 1 0) oth) (hkd : 0 ≤ kd ∧ kd ≤ 1) (h : 0 ≤ z_ti A one oth kd) : z_ti A one oth kd ≤ 999 ∧ 0 ≤ z_lr A (-1) one oth kd (z_ti A one oth kd) ∧ z_lr A (-1) one oth kd (if kd = 0 then z_ti A one oth kd - 1 else z_ti A one oth kd + 1) < (if 0 < z_ti A one oth kd ∨ ¬ kd = 0 then 0 else 999999) := by
  have r1 := z_dd_R (lo := -1) hA.1 hA.2.1 h1 h2
  have r2 := z_dd_R (lo := -1) hA.1 hA.2.1 h2 h1
  have e : ∀ n, z_lr A (-1) one oth kd n = (if kd = 0 then n else -n) + z_dd A (-1) (if kd = 0 then oth else one) (if kd = 0 then one else oth) := fun n => rfl
  rw [e, e]
  rw [z_ti] at h ⊢
  by_cases c : kd = 0
  · simp only [if_pos c] at h ⊢
    refine ⟨by omega, by omega, ?_⟩
    split
    · rename_i c2; have : 0 < max 0 (- z_dd A (-1) oth one) := by rcases c2 with c2 | c2; exact c2; exact absurd c c2
      omega
    · omega
  · simp only [if_neg c] at h ⊢
    by_cases c3 : z_dd A (-1) one oth < 0
    · rw [if_pos c3] at h; omega
    · simp only [if_neg c3] at h ⊢
      refine ⟨by omega, by omega, ?_⟩
      rw [if_pos (Or.inr c)]
      omega
end ZLAW3
