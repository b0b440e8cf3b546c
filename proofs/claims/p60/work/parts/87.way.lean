/-! WAYS: weights of a plan, first steps, nodes -/
theorem z_Sx_far {A : z_A} (hA : z_okg A) {lo : Int} {y : Int → Int} (hy : z_Fe (z_sc (z_Sx A lo)) y) {a b : Int} (ha : z_bl (A 1 0) a) (hb2 : z_bl (A 1 0) b) : y b - y a ≤ 64000 := by
  have hy' := z_sc_iff.mp hy
  have g : ∀ e, z_bl (A 1 0) e → y e - y 0 ≤ 63937 ∧ y 0 - y e ≤ 1 := by
    intro e he
    by_cases c : e = 0
    · subst c; omega
    · have q1 := hy' (0, e, A 0 0, 100 + e) (by
        simp only [z_Sx, List.mem_append]
        exact Or.inl (Or.inr (z_S2_mem.mpr ⟨e, by have := he.1; omega, by have := he.2; omega, Or.inl rfl⟩)))
      have q2 := hy' (e, 0, 0, 200 + e) (by
        simp only [z_Sx, List.mem_append]
        exact Or.inl (Or.inr (z_S2_mem.mpr ⟨e, by have := he.1; omega, by have := he.2; omega, Or.inr rfl⟩)))
      simp only at q1 q2
      have := hA.1.2
      omega
  have := g a ha
  have := g b hb2
  omega
/-- the weight between two events -/
noncomputable def z_WW (A : z_A) (a b : Int) : Int := z_Dd (z_sc (z_Sx A (-1))) (A 1 0) a b
theorem z_WW_is {A : z_A} (hA : z_okg A) (hb : z_bears A) : z_IsD (z_sc (z_Sx A (-1))) (A 1 0) (z_WW A) := by
  obtain ⟨x, hx⟩ := (z_sv_A hA hb (-1)).2.2.1
  obtain ⟨d, hd⟩ := z_IsD_ex ⟨_, z_sc_Fe hx⟩ (fun y hy a b ha hb2 => z_Sx_far hA hy ha hb2)
  exact z_D_is hd
/-- how many steps the way has -/
noncomputable def z_cn (A : z_A) (a b : Int) : Int := z_WW A a b - 64 * z_dd A (-1) a b
theorem z_cn_R {A : z_A} (hA : z_okg A) (hb : z_bears A) {a b : Int} (ha : z_bl (A 1 0) a) (hb' : z_bl (A 1 0) b) : 0 ≤ z_cn A a b ∧ z_cn A a b ≤ A 1 0 - 1 := by
  have := z_Wq (z_sv_A hA hb (-1)).2.1 hA.2.1 (z_isd hA hb (-1)) (z_WW_is hA hb) ha hb'
  unfold z_cn
  omega
theorem z_ffi_ex (p : Int → Prop) : ∀ n : Nat, ∃ v, z_ffi p (n : Int) v
  | 0 => ⟨-2, Or.inl ⟨rfl, fun h h0 h1 => absurd h1 (by omega)⟩⟩
  | n + 1 => by
    obtain ⟨v, hv⟩ := z_ffi_ex p n
    rcases hv with ⟨a, q⟩ | ⟨a, q, r, s⟩
    · by_cases c : p (n : Int)
      · exact ⟨n, Or.inr ⟨by omega, by omega, c, q⟩⟩
      · exact ⟨-2, Or.inl ⟨rfl, fun h h0 h1 => by
          by_cases e : h = (n : Int)
          · rw [e]; exact c
          · exact q h h0 (by omega)⟩⟩
    · exact ⟨v, Or.inr ⟨a, by omega, r, s⟩⟩
theorem z_fi1_is {p : Int → Prop} {n : Int} (h : 0 ≤ n) : z_ffi p n (z_fi1 p n) := by
  obtain ⟨v, hv⟩ := z_ffi_ex p n.toNat
  rw [show ((n.toNat : Nat) : Int) = n by omega] at hv
  rw [z_fi1_of hv]
  exact hv
/-- the step with index k is first of a way from a to b -/
def z_pst (A : z_A) (b a k : Int) : Prop := ∃ q, (z_Sx A (-1))[k.toNat]? = some q ∧ q.1 = a ∧ 64 * q.2.2.1 + 1 + z_WW A q.2.1 b = z_WW A a b
noncomputable def z_nxi (A : z_A) (b a : Int) : Int := z_fi1 (z_pst A b a) ((z_Sx A (-1)).length : Int)
noncomputable def z_nxt (A : z_A) (b a : Int) : Int × Int × Int × Int := ((z_Sx A (-1))[(z_nxi A b a).toNat]?).getD (0, 0, 0, 0)
theorem z_nx_ok {A : z_A} (hA : z_okg A) (hb : z_bears A) {a b : Int} (ha : z_bl (A 1 0) a) (hb' : z_bl (A 1 0) b) (hab : a ≠ b) :
    (0 ≤ z_nxi A b a ∧ z_nxi A b a < ((z_Sx A (-1)).length : Int) ∧ z_pst A b a (z_nxi A b a) ∧ ∀ h : Int, 0 ≤ h → h < z_nxi A b a → ¬ z_pst A b a h) ∧ (z_Sx A (-1))[(z_nxi A b a).toNat]? = some (z_nxt A b a) ∧ (z_nxt A b a).1 = a ∧ 64 * (z_nxt A b a).2.2.1 + 1 + z_WW A (z_nxt A b a).2.1 b = z_WW A a b ∧ z_bl (A 1 0) (z_nxt A b a).2.1 ∧
    (z_nxt A b a).2.2.1 + z_dd A (-1) (z_nxt A b a).2.1 b = z_dd A (-1) a b ∧ z_cn A (z_nxt A b a).2.1 b + 1 = z_cn A a b := by
  have hw := (z_sv_A hA hb (-1)).2.1
  obtain ⟨q', hq', e1, e2⟩ := z_tight (z_sc_wf hw) (z_WW_is hA hb) ha hb' hab
  obtain ⟨q, hq, rfl⟩ := List.mem_map.mp hq'
  obtain ⟨k, hk⟩ := List.mem_iff_getElem?.mp hq
  have hl := (List.getElem?_eq_some_iff.mp hk).1
  have hp : z_pst A b a (k : Int) := ⟨q, hk, e1, e2⟩
  have hf : z_ffi (z_pst A b a) ((z_Sx A (-1)).length : Int) (z_nxi A b a) := z_fi1_is (by omega)
  rcases hf with ⟨-, hn⟩ | hf
  · exact absurd hp (hn k (by omega) (by omega))
  · obtain ⟨r, hr, f1, f2⟩ := hf.2.2.1
    have er : z_nxt A b a = r := by
      unfold z_nxt
      rw [hr]
      rfl
    have hb2 : z_bl (A 1 0) r.2.1 := (hw r (List.mem_of_getElem? hr)).2
    have c1 := z_cn_R hA hb ha hb'
    have c2 := z_cn_R hA hb hb2 hb'
    have r1 := hA.2.1
    refine ⟨hf, by rw [er]; exact hr, by rw [er]; exact f1, by rw [er]; exact f2, by rw [er]; exact hb2, ?_, ?_⟩
    · rw [er]
      unfold z_cn at c1 c2
      omega
    · rw [er]
      unfold z_cn at c1 c2 ⊢
      omega
theorem z_cn_0 {A : z_A} (hA : z_okg A) (hb : z_bears A) {a b : Int} (ha : z_bl (A 1 0) a) (hb' : z_bl (A 1 0) b) : z_cn A a b = 0 ↔ a = b := by
  constructor
  · intro h
    refine Classical.byContradiction fun hab => ?_
    obtain ⟨-, -, -, -, h5, -, h7⟩ := z_nx_ok hA hb ha hb' hab
    have := z_cn_R hA hb h5 hb'
    omega
  · rintro rfl
    have h1 := z_D0 (z_WW_is hA hb) ha
    have h2 := z_D0 (z_isd hA hb (-1)) ha
    unfold z_cn
    omega
/-- the nodes of the way -/
noncomputable def z_nd (A : z_A) (b a : Int) : Nat → Int
  | 0 => a
  | k + 1 => (z_nxt A b (z_nd A b a k)).2.1
theorem z_nd_s {A : z_A} {b a i : Int} (i0 : 0 ≤ i) : z_nd A b a (i + 1).toNat = (z_nxt A b (z_nd A b a i.toNat)).2.1 := by
  rw [show (i + 1).toNat = i.toNat + 1 by omega, z_nd]
theorem z_nd_ok {A : z_A} (hA : z_okg A) (hb : z_bears A) {a b : Int} (ha : z_bl (A 1 0) a) (hb' : z_bl (A 1 0) b) : ∀ k : Nat, (k : Int) ≤ z_cn A a b → z_bl (A 1 0) (z_nd A b a k) ∧ z_cn A (z_nd A b a k) b = z_cn A a b - k
  | 0, _ => ⟨ha, by show z_cn A a b = _; omega⟩
  | k + 1, h => by
    obtain ⟨h1, h2⟩ := z_nd_ok hA hb ha hb' k (by omega)
    have hne : z_nd A b a k ≠ b := fun c => by
      have := (z_cn_0 hA hb h1 hb').mpr c
      omega
    obtain ⟨-, -, -, -, h5, -, h7⟩ := z_nx_ok hA hb h1 hb' hne
    refine ⟨h5, ?_⟩
    show z_cn A (z_nxt A b (z_nd A b a k)).2.1 b = _
    omega
/-- the step of a way -/
noncomputable def z_wy (A : z_A) (a b i : Int) : Int := if i < z_cn A a b then (z_nxt A b (z_nd A b a i.toNat)).2.2.2 else -2
