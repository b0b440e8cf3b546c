/-! THE LAW'S METHODS: what is told -/
/-- rows of the law's own lie beyond the object: only row a1 differs -/
def z_LT (w0 : z_Mm) (a1 : Nat) (L : List Int) (w : z_Mm) (A : z_A) (H : List z_A) (T : z_T) (er : Int) (s : Nat → Option z_A) : Prop := z_JC w A H T er s ∧ z_tx w a1 L ∧ ∀ a : Nat, 161 ≤ a → a ≠ a1 → w a = w0 a
theorem z_tx.put {w : z_Mm} {a : Nat} {L : List Int} {i v : Int} (h : z_tx w a L) (hi : i = (L.length : Int)) : z_tx (z_W w a i v) a (L ++ [v]) := by
  subst hi
  intro k b hk
  rcases z_snoc hk with ⟨h1, h2⟩ | ⟨h1, h2⟩
  · show (if a = a ∧ (k : Int) = (L.length : Int) then v else w a (k : Int)) = b
    rw [if_neg (fun q => by have := q.2; omega)]
    exact h k b h2
  · show (if a = a ∧ (k : Int) = (L.length : Int) then v else w a (k : Int)) = b
    rw [if_pos ⟨rfl, by omega⟩]
    exact h2.symm
section ZTELLS
variable {sh : List z_C} {w w0 : z_Mm} {Q : Option z_V → z_S → Prop} {A : z_A} {H : List z_A} {T : z_T} {er : Int} {s : Nat → Option z_A} {a1 : Nat} {L : List Int}
theorem z_LT.go {M' : z_M} {vs : List z_V} {v : Int} {K : Int → z_Mm → Prop} (hl : z_LT w0 a1 L w A H T er s) (hu : z_uc M' vs A H T er s v A H T er s) (hT : z_isTG sh 0) (ha : 161 ≤ a1) (k : ∀ w', z_LT w0 a1 L w' A H T er s → K v w') : z_CI M' vs sh w K :=
  hu sh w K hT hl.1 (fun w' h1 f => k w' ⟨h1, hl.2.1.cg (f a1 ha), fun a h2 h3 => (f a h2).trans (hl.2.2 a h2 h3)⟩)
theorem z_LT.put {w' : z_Mm} {i v : Int} (h : z_LT w0 a1 L w A H T er s) (ha : 161 ≤ a1) (hi : i = (L.length : Int)) (hw : w' = z_W w a1 i v) : z_LT w0 a1 (L ++ [v]) w' A H T er s := by
  subst hw
  exact ⟨h.1.fr (fun a h1 _ => z_Wf (by omega)), h.2.1.put hi, fun a h1 h2 => (z_Wf h2).trans (h.2.2 a h1 h2)⟩
noncomputable def z_tA (A : z_A) : Nat → List Int
  | 0 => []
  | k + 1 => z_tA A k ++ [z_qv A [] (k : Int)]
noncomputable def z_tB (A : z_A) : Nat → List Int
  | 0 => z_tA A 12
  | k + 1 => z_tB A k ++ [z_qe A (k : Int) 0] ++ [z_qe A (k : Int) 1] ++ [z_qe A (k : Int) 3] ++ [z_qle A (k : Int) 0] ++ [z_qle A (k : Int) 1]
noncomputable def z_tC (A : z_A) (L : List Int) (g : Int) : Nat → List Int
  | 0 => L
  | k + 1 => z_tC A L g k ++ [z_qg A g (k : Int)]
noncomputable def z_tD (A : z_A) : Nat → List Int
  | 0 => z_tB A (A 1 0).toNat
  | k + 1 => z_tC A (z_tD A k) (k : Int) 5
noncomputable def z_tE (A : z_A) : Nat → List Int
  | 0 => z_tD A (A 2 0).toNat
  | k + 1 => z_tE A k ++ [z_ql A (k : Int) 0] ++ [z_ql A (k : Int) 1] ++ [z_ql A (k : Int) 2]
/-- all that is told -/
noncomputable def z_tl (A : z_A) : List Int := z_tE A (A 10 0).toNat
theorem z_tA_len : ∀ k : Nat, (z_tA A k).length = k
  | 0 => rfl
  | k + 1 => by rw [z_tA, List.length_append, z_tA_len k]; rfl
theorem z_tB_len : ∀ k : Nat, (z_tB A k).length = 12 + 5 * k
  | 0 => z_tA_len 12
  | k + 1 => by
    have := z_tB_len k
    simp only [z_tB, List.length_append, List.length_cons, List.length_nil]
    omega
theorem z_tC_len {g : Int} : ∀ k : Nat, (z_tC A L g k).length = L.length + k
  | 0 => rfl
  | k + 1 => by rw [z_tC, List.length_append, z_tC_len k]; rfl
theorem z_tD_len : ∀ k : Nat, (z_tD A k).length = 12 + 5 * (A 1 0).toNat + 5 * k
  | 0 => z_tB_len _
  | k + 1 => by
    rw [z_tD, z_tC_len, z_tD_len k]
    omega
theorem z_tE_len : ∀ k : Nat, (z_tE A k).length = 12 + 5 * (A 1 0).toNat + 5 * (A 2 0).toNat + 3 * k
  | 0 => z_tD_len _
  | k + 1 => by
    have := z_tE_len k
    simp only [z_tE, List.length_append, List.length_cons, List.length_nil]
    omega
theorem z_tl_len (hA : z_ok A) : (z_tl A).length ≤ 302 := by
  rw [z_tl, z_tE_len]
  have h1 := hA.1.2.1
  have h2 := hA.1.2.2.1
  have h3 := hA.2.2.2.2
  omega
theorem L_tells_147 (hT : z_isTG sh 0) (ha : 161 ≤ a1) (hh : sh[a1]? = some (.inr (.inl (0, 400)))) (hA : z_ok A) (hQ : ∀ w', z_LT w0 a1 (z_tl A) w' A H T er s → Q (some (z_i ((z_tl A).length : Int))) (sh, w')) :
    ∀ (k i : Nat), i + k = (A 10 0).toNat → ∀ w, z_LT w0 a1 (z_tE A i) w A H T er s → z_Sem mL_tells (sh.length, 0) 147 [(0, z_r 0), (1, z_r a1), (2, z_i ((z_tE A i).length : Int)), (3, z_i (i : Int))] [] (sh, w) Q
  | k, i, hk, w, hl => by
    have h1 := hA.1.2.1
    have h2 := hA.1.2.2.1
    have h3 := hA.2.2.2.2
    have hlen := z_tE_len (A := A) i
    have hlen2 := z_tE_len (A := A) (i + 1)
    refine t_L_tells_147 hT hh (hl.go uc_value hT ha (fun w1 hl => ⟨fun hc => ?_, fun hc => ?_⟩))
    · have hc' : A 10 0 ≤ (i : Int) := hc
      have : i = (A 10 0).toNat := by omega
      subst this
      exact hQ w1 hl
    · have hc' : ¬ A 10 0 ≤ (i : Int) := hc
      match k, hk with
      | 0, hk => exact absurd (by omega) hc'
      | k + 1, hk =>
        refine hl.go uc_log hT ha (fun w2 hl => ⟨by omega, fun w3 e3 => ⟨⟨by omega, by omega⟩, ?_⟩⟩)
        have hl := hl.put ha rfl e3
        refine hl.go uc_log hT ha (fun w4 hl => ⟨by omega, fun w5 e5 => ⟨⟨by omega, by omega⟩, ?_⟩⟩)
        have hl := hl.put ha (by rw [z_l1]; omega) e5
        refine hl.go uc_log hT ha (fun w6 hl => ⟨by omega, fun w7 e7 => ⟨⟨by omega, by omega⟩, ⟨by omega, by omega⟩, ?_⟩⟩)
        have hl := hl.put ha (by rw [z_l1, z_l1]; omega) e7
        have := L_tells_147 hT ha hh hA hQ k (i + 1) (by omega) w7 hl
        rw [show (((z_tE A (i + 1)).length : Nat) : Int) = ((z_tE A i).length : Int) + 3 by omega] at this
        exact this
theorem L_tells_114 (hT : z_isTG sh 0) (ha : 161 ≤ a1) (hh : sh[a1]? = some (.inr (.inl (0, 400)))) {g : Nat} (hL : L.length ≤ 300)
    (hQ : ∀ w', z_LT w0 a1 (z_tC A L (g : Int) 5) w' A H T er s → z_Sem mL_tells (sh.length, 0) 102 [(0, z_r 0), (1, z_r a1), (2, z_i ((z_tC A L (g : Int) 5).length : Int)), (3, z_i ((g : Int) + 1))] [] (sh, w') Q) (hg : (g : Int) ≤ 24) :
    ∀ (k i : Nat), i + k = 5 → ∀ w, z_LT w0 a1 (z_tC A L (g : Int) i) w A H T er s → z_Sem mL_tells (sh.length, 0) 114 [(0, z_r 0), (1, z_r a1), (2, z_i ((z_tC A L (g : Int) i).length : Int)), (3, z_i (g : Int)), (4, z_i (i : Int))] [] (sh, w) Q
  | k, i, hk, w, hl => by
    have hlen := z_tC_len (A := A) (L := L) (g := (g : Int)) i
    have hlen2 := z_tC_len (A := A) (L := L) (g := (g : Int)) (i + 1)
    refine t_L_tells_114 hT hh ⟨fun hc => ⟨⟨by omega, by omega⟩, ?_⟩, fun hc => ?_⟩
    · have : i = 5 := by omega
      subst this
      exact hQ w hl
    · match k, hk with
      | 0, hk => exact absurd (by omega) hc
      | k + 1, hk =>
        refine hl.go uc_gap hT ha (fun w2 hl => ⟨by omega, fun w3 e3 => ⟨⟨by omega, by omega⟩, ⟨by omega, by omega⟩, ?_⟩⟩)
        have hl := hl.put ha rfl e3
        have := L_tells_114 hT ha hh hL hQ hg k (i + 1) (by omega) w3 hl
        rw [show (((z_tC A L (g : Int) (i + 1)).length : Nat) : Int) = ((z_tC A L (g : Int) i).length : Int) + 1 by omega] at this
        exact this
theorem L_tells_102 (hT : z_isTG sh 0) (ha : 161 ≤ a1) (hh : sh[a1]? = some (.inr (.inl (0, 400)))) (hA : z_ok A) (hQ : ∀ w', z_LT w0 a1 (z_tl A) w' A H T er s → Q (some (z_i ((z_tl A).length : Int))) (sh, w')) :
    ∀ (k i : Nat), i + k = (A 2 0).toNat → ∀ w, z_LT w0 a1 (z_tD A i) w A H T er s → z_Sem mL_tells (sh.length, 0) 102 [(0, z_r 0), (1, z_r a1), (2, z_i ((z_tD A i).length : Int)), (3, z_i (i : Int))] [] (sh, w) Q
  | k, i, hk, w, hl => by
    have h1 := hA.1.2.1
    have h2 := hA.1.2.2.1
    have h3 := hA.2.2.2.2
    have hlen := z_tD_len (A := A) i
    refine t_L_tells_102 hT hh (hl.go uc_value hT ha (fun w1 hl => ⟨fun hc => ?_, fun hc => ?_⟩))
    · have hc' : A 2 0 ≤ (i : Int) := hc
      have : i = (A 2 0).toNat := by omega
      subst this
      exact L_tells_147 hT ha hh hA hQ (A 10 0).toNat 0 (by omega) w1 hl
    · have hc' : ¬ A 2 0 ≤ (i : Int) := hc
      match k, hk with
      | 0, hk => exact absurd (by omega) hc'
      | k + 1, hk =>
        exact L_tells_114 (L := z_tD A i) (g := i) hT ha hh (by omega) (fun w' hl => L_tells_102 hT ha hh hA hQ k (i + 1) (by omega) w' hl) (by omega) 5 0 rfl w1 hl
theorem L_tells_29 (hT : z_isTG sh 0) (ha : 161 ≤ a1) (hh : sh[a1]? = some (.inr (.inl (0, 400)))) (hA : z_ok A) (hQ : ∀ w', z_LT w0 a1 (z_tl A) w' A H T er s → Q (some (z_i ((z_tl A).length : Int))) (sh, w')) :
    ∀ (k i : Nat), i + k = (A 1 0).toNat → ∀ w, z_LT w0 a1 (z_tB A i) w A H T er s → z_Sem mL_tells (sh.length, 0) 29 [(0, z_r 0), (1, z_r a1), (2, z_i ((z_tB A i).length : Int)), (3, z_i (i : Int))] [] (sh, w) Q
  | k, i, hk, w, hl => by
    have h1 := hA.1.2.1
    have h2 := hA.1.2.2.1
    have h3 := hA.2.2.2.2
    have hlen := z_tB_len (A := A) i
    have hlen2 := z_tB_len (A := A) (i + 1)
    refine t_L_tells_29 hT hh (hl.go uc_value hT ha (fun w1 hl => ⟨fun hc => ?_, fun hc => ?_⟩))
    · have hc' : A 1 0 ≤ (i : Int) := hc
      have : i = (A 1 0).toNat := by omega
      subst this
      exact L_tells_102 hT ha hh hA hQ (A 2 0).toNat 0 (by omega) w1 hl
    · have hc' : ¬ A 1 0 ≤ (i : Int) := hc
      match k, hk with
      | 0, hk => exact absurd (by omega) hc'
      | k + 1, hk =>
        refine hl.go uc_event hT ha (fun w2 hl => ⟨by omega, fun w3 e3 => ⟨⟨by omega, by omega⟩, ?_⟩⟩)
        have hl := hl.put ha rfl e3
        refine hl.go uc_event hT ha (fun w2 hl => ⟨by omega, fun w3 e3 => ⟨⟨by omega, by omega⟩, ?_⟩⟩)
        have hl := hl.put ha (by rw [z_l1]; omega) e3
        refine hl.go uc_event hT ha (fun w2 hl => ⟨by omega, fun w3 e3 => ⟨⟨by omega, by omega⟩, ?_⟩⟩)
        have hl := hl.put ha (by rw [z_l1, z_l1]; omega) e3
        refine hl.go uc_letter hT ha (fun w2 hl => ⟨by omega, fun w3 e3 => ⟨⟨by omega, by omega⟩, ?_⟩⟩)
        have hl := hl.put ha (by rw [z_l1, z_l1, z_l1]; omega) e3
        refine hl.go uc_letter hT ha (fun w2 hl => ⟨by omega, fun w7 e7 => ⟨⟨by omega, by omega⟩, ⟨by omega, by omega⟩, ?_⟩⟩)
        have hl := hl.put ha (by rw [z_l1, z_l1, z_l1, z_l1]; omega) e7
        have := L_tells_29 hT ha hh hA hQ k (i + 1) (by omega) w7 hl
        rw [show (((z_tB A (i + 1)).length : Nat) : Int) = ((z_tB A i).length : Int) + 5 by omega] at this
        exact this
theorem L_tells_4 (hT : z_isTG sh 0) (ha : 161 ≤ a1) (hh : sh[a1]? = some (.inr (.inl (0, 400)))) (hA : z_ok A) (hQ : ∀ w', z_LT w0 a1 (z_tl A) w' A H T er s → Q (some (z_i ((z_tl A).length : Int))) (sh, w')) :
    ∀ (k i : Nat), i + k = 12 → ∀ w, z_LT w0 a1 (z_tA A i) w A H T er s → z_Sem mL_tells (sh.length, 0) 4 [(0, z_r 0), (1, z_r a1), (2, z_i ((z_tA A i).length : Int)), (3, z_i (i : Int))] [] (sh, w) Q
  | k, i, hk, w, hl => by
    have hlen := z_tA_len (A := A) i
    have hlen2 := z_tA_len (A := A) (i + 1)
    refine t_L_tells_4 hT hh ⟨fun hc => ?_, fun hc => ?_⟩
    · have : i = 12 := by omega
      subst this
      exact L_tells_29 hT ha hh hA hQ (A 1 0).toNat 0 (by omega) w hl
    · match k, hk with
      | 0, hk => exact absurd (by omega) hc
      | k + 1, hk =>
        refine hl.go uc_value hT ha (fun w2 hl => ⟨by omega, fun w3 e3 => ⟨⟨by omega, by omega⟩, ⟨by omega, by omega⟩, ?_⟩⟩)
        have hv : z_qv A H (i : Int) = z_qv A [] (i : Int) := by
          unfold z_qv
          simp only [show ¬ (i : Int) = 12 by omega, if_false]
        rw [hv] at e3
        have hl := hl.put ha rfl e3
        have := L_tells_4 hT ha hh hA hQ k (i + 1) (by omega) w3 hl
        rw [show (((z_tA A (i + 1)).length : Nat) : Int) = ((z_tA A i).length : Int) + 1 by omega] at this
        exact this
/-- tells -/
theorem L_tells {K : Int → z_Mm → Prop} (hT : z_isTG sh 0) (ha : 161 ≤ a1) (hh : sh[a1]? = some (.inr (.inl (0, 400)))) (h : z_JC w A H T er s) (k : ∀ w', z_LT w a1 (z_tl A) w' A H T er s → K ((z_tl A).length : Int) w') : z_CI mL_tells [z_r 0, z_r a1] sh w K :=
  z_CIi (t_L_tells hT hh (L_tells_4 hT ha hh h.1.1 (fun w' hl => ⟨_, w', rfl, rfl, k w' hl⟩) 12 0 rfl w ⟨h, fun k b hk => (by cases hk), fun _ _ _ => rfl⟩))
/-- isAs -/
theorem L_isAs_19 {a3 : Nat} (hT : z_isTG sh 0) (hh1 : sh[a1]? = some (.inr (.inl (0, 400)))) (hh3 : sh[a3]? = some (.inr (.inl (0, 400)))) (hL : L.length ≤ 302) (h1 : z_tx w a1 L) (h3 : z_tx w a3 L) (hQ : Q (some (z_i 1)) (sh, w)) :
    ∀ (k i : Nat), i + k = L.length → z_Sem mL_isAs (sh.length, 0) 19 [(1, z_r a1), (2, z_i (L.length : Int)), (3, z_r a3), (4, z_i 1), (5, z_i (i : Int))] [] (sh, w) Q
  | k, i, hk => by
    refine t_L_isAs_19 hT hh1 hh3 ⟨fun _ => hQ, fun hc => ?_⟩
    match k, hk with
    | 0, hk => exact absurd (by omega) hc
    | k + 1, hk =>
      refine ⟨by omega, by omega, ?_, ⟨by omega, by omega⟩, L_isAs_19 hT hh1 hh3 hL h1 h3 hQ k (i + 1) (by omega)⟩
      rw [h1.at (by omega : i < L.length), h3.at (by omega : i < L.length)]
theorem L_isAs {a3 : Nat} {K : Int → z_Mm → Prop} (hT : z_isTG sh 0) (ha : 161 ≤ a3) (hh1 : sh[a1]? = some (.inr (.inl (0, 400)))) (hh3 : sh[a3]? = some (.inr (.inl (0, 400)))) (h : z_JC w A H T er s) (h13 : a1 ≠ a3) (ha1 : 161 ≤ a1) (ht : z_tx w a1 (z_tl A)) (k : ∀ w', z_JC w' A H T er s → (∀ a : Nat, 161 ≤ a → a ≠ a3 → w' a = w a) → K 1 w') : z_CI mL_isAs [z_r 0, z_r a1, z_i ((z_tl A).length : Int), z_r a3] sh w K :=
  z_CIi (t_L_isAs hT hh1 hh3 (L_tells hT ha hh3 h (fun w' hl => ⟨rfl, L_isAs_19 hT hh1 hh3 (z_tl_len h.1.1) (ht.cg (hl.2.2 a1 ha1 h13)) hl.2.1 ⟨1, w', rfl, rfl, k w' hl.1 hl.2.2⟩ (z_tl A).length 0 (Nat.zero_add _)⟩)))
end ZTELLS
