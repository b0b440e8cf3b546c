/-! WHAT IS TOLD AHEAD OF OTHER ACTS: mathematics -/
section ZPLACE
variable {t : Int → Int}
theorem z_ct_sub {p q : Int → Prop} {e : Int} : ∀ k : Nat, (∀ j : Int, 0 ≤ j → j < k → p j → q j) → (0 ≤ e ∧ e < k) → q e → ¬ p e → z_ct p k + 1 ≤ z_ct q k
  | 0, _, he, _, _ => by omega
  | k + 1, h, he, hq, hp => by
    rw [z_ct, z_ct]
    by_cases c : e = (k : Int)
    · subst c
      rw [if_neg hp, if_pos hq]
      have hm : ∀ m : Nat, m ≤ k → z_ct p m ≤ z_ct q m := by
        intro m
        induction m with
        | zero => intro _; exact Int.le_refl _
        | succ m ih =>
          intro hm
          have := ih (by omega)
          rw [z_ct, z_ct]
          by_cases c : p (m : Int)
          · rw [if_pos c, if_pos (h m (by omega) (by omega) c)]; omega
          · rw [if_neg c]; split <;> omega
      have := hm k (Nat.le_refl _)
      omega
    · have ih := z_ct_sub k (fun j j0 j1 => h j j0 (by omega)) ⟨he.1, by omega⟩ hq hp
      by_cases c2 : p (k : Int)
      · rw [if_pos c2, if_pos (h k (by omega) (by omega) c2)]; omega
      · rw [if_neg c2]; split <;> omega
/-- one's place -/
noncomputable def z_plc (t : Int → Int) (n : Nat) (e : Int) : Int := z_ct (z_ahd t e) n
theorem z_plc_lt {n : Nat} {e f : Int} (he : z_bl n e) (h : z_ahd t f e) : z_plc t n e < z_plc t n f := by
  have := z_ct_sub (p := z_ahd t e) (q := z_ahd t f) (e := e) n (fun j _ _ hj => by
    unfold z_ahd at hj h ⊢
    omega) he h (by unfold z_ahd; omega)
  unfold z_plc
  omega
theorem z_plc_R {n : Nat} {e : Int} (he : z_bl n e) : 0 ≤ z_plc t n e ∧ z_plc t n e < n := by
  have h1 := z_ct_R (p := z_ahd t e) n
  have h2 := z_ct_sub (p := z_ahd t e) (q := fun _ => True) (e := e) n (fun _ _ _ _ => True.intro) he True.intro (by unfold z_ahd; omega)
  have h3 := z_ct_R (p := fun _ => True) n
  unfold z_plc
  omega
theorem z_plc_i {n : Nat} {e f : Int} (he : z_bl n e) (hf : z_bl n f) (h : z_plc t n e = z_plc t n f) : e = f := by
  rcases (by unfold z_ahd; omega : e = f ∨ z_ahd t f e ∨ z_ahd t e f) with c | c | c
  · exact c
  · have := z_plc_lt he c; omega
  · have := z_plc_lt hf c; omega
theorem z_plc_s {n : Nat} {i : Int} (hi : z_bl n i) : ∃ e, z_bl n e ∧ z_plc t n e = i := by
  refine Classical.byContradiction fun hno => ?_
  have hn : ∀ e, z_bl n e → z_plc t n e ≠ i := fun e he c => hno ⟨e, he, c⟩
  obtain ⟨a, b, hab, hb, heq⟩ := z_pig (n - 1) (fun e => if z_plc t n (e : Int) < i then (z_plc t n (e : Int)).toNat else (z_plc t n (e : Int) - 1).toNat) (fun e he => by
    have h1 := z_plc_R (t := t) (n := n) (e := (e : Int)) ⟨by omega, by omega⟩
    have h2 := hn (e : Int) ⟨by omega, by omega⟩
    show (if z_plc t n (e : Int) < i then (z_plc t n (e : Int)).toNat else (z_plc t n (e : Int) - 1).toNat) < n - 1
    split <;> omega)
  have ha' : z_bl n (a : Int) := ⟨by omega, by omega⟩
  have hb' : z_bl n (b : Int) := ⟨by omega, by omega⟩
  have h1 := z_plc_R (t := t) ha'
  have h2 := z_plc_R (t := t) hb'
  have h3 := hn _ ha'
  have h4 := hn _ hb'
  have : z_plc t n (a : Int) = z_plc t n (b : Int) := by
    have heq2 : (if z_plc t n (a : Int) < i then (z_plc t n (a : Int)).toNat else (z_plc t n (a : Int) - 1).toNat) = (if z_plc t n (b : Int) < i then (z_plc t n (b : Int)).toNat else (z_plc t n (b : Int) - 1).toNat) := heq
    split at heq2 <;> split at heq2 <;> omega
  have := z_plc_i ha' hb' this
  omega
theorem z_plc_le {n : Nat} {e f : Int} (he : z_bl n e) (hf : z_bl n f) (h : z_plc t n e ≤ z_plc t n f) : t e ≤ t f := by
  rcases (by unfold z_ahd; omega : e = f ∨ z_ahd t f e ∨ z_ahd t e f) with c | c | c
  · rw [c]; exact Int.le_refl _
  · unfold z_ahd at c; omega
  · have := z_plc_lt hf c; omega
end ZPLACE
section ZFORE
variable {A B : z_A} {H : List z_A}
theorem z_qo_at {how i : Int} (hi : z_bl (A 1 0) i) : z_bl (A 1 0) (z_qo A how i) ∧ z_plc (z_tme A how) (A 1 0).toNat (z_qo A how i) = i := by
  have h0 := hi.1
  have h1 := hi.2
  rw [z_qo, if_pos h0]
  rcases z_fi1_is (p := z_pli A how i) (n := A 1 0) (by omega) with ⟨-, h⟩ | ⟨v0, v1, v2, -⟩
  · obtain ⟨e, he, hp⟩ := z_plc_s (t := z_tme A how) (n := (A 1 0).toNat) (i := i) ⟨h0, by omega⟩
    exact absurd hp (h e he.1 (by have := he.2; omega))
  · exact ⟨⟨v0, v1⟩, v2⟩
theorem z_qo_n {how : Int} (hn : 1 ≤ A 1 0) : z_qo A how (A 1 0) = -2 := by
  rw [z_qo, if_pos (by omega)]
  rcases z_fi1_is (p := z_pli A how (A 1 0)) (n := A 1 0) (by omega) with ⟨h, -⟩ | ⟨v0, v1, v2, -⟩
  · exact h
  · have := (z_plc_R (t := z_tme A how) (n := (A 1 0).toNat) (e := z_fi1 (z_pli A how (A 1 0)) (A 1 0)) ⟨v0, by omega⟩).2
    have v2' : z_plc (z_tme A how) (A 1 0).toNat (z_fi1 (z_pli A how (A 1 0)) (A 1 0)) = A 1 0 := v2
    omega
theorem z_qo_mo {how i j : Int} (hi : z_bl (A 1 0) i) (hj : z_bl (A 1 0) j) (h : i ≤ j) : z_tme A how (z_qo A how i) ≤ z_tme A how (z_qo A how j) := by
  obtain ⟨a1, a2⟩ := z_qo_at (A := A) (how := how) hi
  obtain ⟨b1, b2⟩ := z_qo_at (A := A) (how := how) hj
  exact z_plc_le (n := (A 1 0).toNat) ⟨a1.1, by have := a1.2; omega⟩ ⟨b1.1, by have := b1.2; omega⟩ (by omega)
theorem z_ge_qo (hA : z_ok A) : z_tme A 1 (z_qo A 1 (A 1 0 - 1)) = z_ge A (A 1 0).toNat := by
  have n0 := hA.1.2.1
  have hl : z_bl (A 1 0) (A 1 0 - 1) := ⟨by omega, by omega⟩
  obtain ⟨a1, a2⟩ := z_qo_at (A := A) (how := 1) hl
  have h1 := z_ge_ub (A := A) (A 1 0).toNat (z_qo A 1 (A 1 0 - 1)) a1.1 (by have := a1.2; omega)
  have h2 := z_el_R hA.1 hA.2.1 a1
  have e1 : z_tme A 1 (z_qo A 1 (A 1 0 - 1)) = - z_dd A (-1) (z_qo A 1 (A 1 0 - 1)) 0 := by rw [z_tme, if_neg (by decide)]
  rcases z_ge_at (A := A) (A 1 0).toNat with h | ⟨e, he, h⟩
  · omega
  · have hbe : z_bl (A 1 0) e := ⟨he.1, by have := he.2; omega⟩
    have hp := z_plc_R (t := z_tme A 1) (n := (A 1 0).toNat) (e := e) ⟨he.1, he.2⟩
    have := z_plc_le (t := z_tme A 1) (n := (A 1 0).toNat) (e := e) (f := z_qo A 1 (A 1 0 - 1)) ⟨he.1, he.2⟩ ⟨a1.1, by have := a1.2; omega⟩ (by omega)
    have e2 : z_tme A 1 e = - z_dd A (-1) e 0 := by rw [z_tme, if_neg (by decide)]
    omega
theorem z_frs_mx : ∀ (k : Nat) (e : Int), 0 ≤ e → e < k → z_rmo A e ≤ z_rmo A (z_frs A k)
  | 0, e, e0, e1 => absurd e1 (by omega)
  | k + 1, e, e0, e1 => by
    rw [z_frs]
    by_cases c : e = (k : Int)
    · subst c
      split
      · assumption
      · exact Int.le_refl _
    · have ih := z_frs_mx k e e0 (by omega)
      split
      · exact ih
      · omega
/-! thin, and then tighten -/
theorem z_fn_is : z_fnl A 0 (z_fn A) := by
  have key : ∃ v, z_fnl A 0 v := by
    by_cases hm : 0 ≤ A 2 0
    · rcases z_fi1_is (p := fun h => ¬ A 7 h = 0 ∧ ¬ z_need A h) hm with ⟨-, h⟩ | ⟨v0, v1, v2, v3⟩
      · exact ⟨-2, Or.inl ⟨rfl, fun g g0 g1 g2 => Classical.byContradiction fun c => h g g0 g1 ⟨g2, c⟩⟩⟩
      · exact ⟨_, Or.inr ⟨v0, v1, v2.1, v2.2, fun g g0 g1 g2 => Classical.byContradiction fun c => v3 g g0 g1 ⟨g2, c⟩⟩⟩
    · exact ⟨-2, Or.inl ⟨rfl, fun g g0 g1 => absurd g1 (by omega)⟩⟩
  obtain ⟨v, hv⟩ := key
  rw [z_fn_of hv]
  exact hv
theorem z_thinN_ok : ∀ (k : Nat) (A : z_A), z_okg A → z_bears A → z_okg (z_thinN k A) ∧ z_bears (z_thinN k A) ∧ z_thinN k A 1 0 = A 1 0 ∧ z_thinN k A 2 0 ≤ A 2 0 ∧ (∀ x, z_F (z_thinN k A) (-1) x ↔ z_F A (-1) x) ∧ (A 2 0 ≤ k → z_fn (z_thinN k A) = -2)
  | 0, A, hA, hb => by
    refine ⟨hA, hb, rfl, Int.le_refl _, fun _ => Iff.rfl, fun h => ?_⟩
    show z_fn A = -2
    exact z_fn_of (Or.inl ⟨rfl, fun g g0 g1 => absurd g1 (by omega)⟩)
  | k + 1, A, hA, hb => by
    rw [z_thinN]
    split
    · rename_i c
      exact ⟨hA, hb, rfl, Int.le_refl _, fun _ => Iff.rfl, fun _ => c⟩
    · rename_i c
      obtain ⟨g0, g1, g2, g3⟩ := z_fnl_in (z_fn_is (A := A)) c
      obtain ⟨h1, h2, h3, h4, h5, h6⟩ := z_thinN_ok k (z_cut A (z_fn A)) (z_okg_cut hA g0 g1) (z_bears_cut g0 g1 hb)
      have e2 : z_cut A (z_fn A) 2 0 = A 2 0 - 1 := rfl
      refine ⟨h1, h2, h3, by omega, fun x => by rw [h5, z_cut_same g0 g1 g2 g3], fun hk => h6 (by omega)⟩
theorem z_cl_0 (hA : z_okg A) (hb : z_bears A) (h : z_fn A = -2) : ∀ k : Nat, (k : Int) ≤ A 2 0 → z_cl A k = 0
  | 0, _ => rfl
  | k + 1, hk => by
    rw [z_cl, z_cl_0 hA hb h k (by omega), if_neg]
    · rfl
    · rintro ⟨h1, h2, -⟩
      rcases z_fn_is (A := A) with ⟨-, hn⟩ | ⟨v0, -⟩
      · exact h2 (z_need_tg hA hb (by omega) (by omega) (hn k (by omega) (by omega) h1))
      · omega
theorem z_fn_note {x y z : Int} (h : z_fn A = -2) : z_fn (z_note A x y z) = -2 := by
  refine z_fn_of (Or.inl ⟨rfl, ?_⟩)
  rcases z_fn_is (A := A) with ⟨-, hn⟩ | ⟨v0, -⟩
  · exact hn
  · omega
theorem z_dtight_0 {H : List z_A} (hA : z_ok A) (h : z_fn A = -2) : z_dtight A H = (-2, A, H) := by
  have := hA.1.2.2.1
  rw [z_dtight, if_pos (z_cl_0 hA.1 hA.2.1 h _ (by omega))]
/-- two plans with the same times have the same distances -/
theorem z_dd_same (hA : z_ok A) (hB : z_ok B) (h1 : B 1 0 = A 1 0) (hF : ∀ x, z_F B (-1) x ↔ z_F A (-1) x) {a b : Int} (ha : z_bl (A 1 0) a) (hb : z_bl (A 1 0) b) : z_dd B (-1) a b = z_dd A (-1) a b := by
  have := z_dd_F (A := A) hB.1 hB.2.1 h1 (z_sv_A hA.1 hA.2.1 (-1)) (fun x => by rw [z_F_iff hA.1, hF]) ha hb
  exact this.symm
/-- bounds, in a number -/
noncomputable def z_hi (A : z_A) (a acc : Int) : Nat → Int
  | 0 => acc
  | k + 1 => z_nrm (z_nrm (31 * z_hi A a acc k) + z_dd A (-1) a (k : Int))
noncomputable def z_ho (A : z_A) (n : Nat) : Nat → Int
  | 0 => 0
  | k + 1 => z_hi A (k : Int) (z_ho A n k) n
theorem z_hi_cg {a acc : Int} {n : Nat} (h : ∀ b, z_bl n b → z_dd B (-1) a b = z_dd A (-1) a b) : ∀ k : Nat, k ≤ n → z_hi B a acc k = z_hi A a acc k
  | 0, _ => rfl
  | k + 1, hk => by rw [z_hi, z_hi, z_hi_cg h k (by omega), h k ⟨by omega, by omega⟩]
theorem z_ho_cg {n : Nat} (h : ∀ a b, z_bl n a → z_bl n b → z_dd B (-1) a b = z_dd A (-1) a b) : ∀ k : Nat, k ≤ n → z_ho B n k = z_ho A n k
  | 0, _ => rfl
  | k + 1, hk => by rw [z_ho, z_ho, z_ho_cg h k (by omega), z_hi_cg (fun b hb => h k b ⟨by omega, by omega⟩ hb) n (Nat.le_refl _)]
theorem z_ro_note {x y z : Int} (hA : z_okg A) : ∀ k : Nat, z_ro (z_note A x y z) k = z_ro A k
  | 0 => rfl
  | k + 1 => by rw [z_ro, z_ro, z_ro_note hA k, z_note_dd hA, z_note_dd hA]
theorem z_tth_2 {p : Int} (h : z_bears B) (hp : p = 2) : z_tth A B p = z_ro B (A 1 0).toNat := by rw [z_tth_t h, hp, z_cg_2]
theorem z_le_end (hA : z_ok A) : (1 ≤ max 1 (z_ge A (A 1 0).toNat) ∧ max 1 (z_ge A (A 1 0).toNat) ≤ 999) ∧ z_bears (z_up A 0 0 (max 1 (z_ge A (A 1 0).toNat))) ∧ (max 1 (z_ge A (A 1 0).toNat) ≠ 1 → ¬ z_bears (z_up A 0 0 (max 1 (z_ge A (A 1 0).toNat) - 1))) := by
  have n0 := hA.1.2.1
  have hub := z_ge_ub (A := A) (A 1 0).toNat
  have hat := z_ge_at (A := A) (A 1 0).toNat
  have hR : z_ge A (A 1 0).toNat ≤ 999 := by
    rcases hat with h | ⟨e, he, h⟩
    · omega
    · have := z_el_R hA.1 hA.2.1 (e := e) ⟨he.1, by have := he.2; omega⟩
      omega
  generalize hle : max 1 (z_ge A (A 1 0).toNat) = le
  refine ⟨by omega, (z_end_iff hA.1 hA.2.1 (by omega)).mpr (fun e e0 e1 => ?_), fun h1 hb => ?_⟩
  · have := hub e e0 (by omega)
    show - z_dd A (-1) e 0 ≤ le
    omega
  · rcases hat with h | ⟨e, he, h⟩
    · omega
    · have := (z_end_iff hA.1 hA.2.1 (by omega)).mp hb e he.1 (by have := he.2; omega)
      have : - z_dd A (-1) e 0 ≤ le - 1 := this
      omega
end ZFORE
