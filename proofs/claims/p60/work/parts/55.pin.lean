/-! PIN, UNPIN, END -/
theorem z_pr_pin {w : z_Mm} {P : Nat} {A : z_A} {g n : Int} (h : z_pr w P A) : z_pr (z_W w (P + 3) g n) P (z_up A 8 g n) := by
  obtain ⟨⟨h1, h2, h3, h4, h5⟩, h6, h7, h8⟩ := h
  refine ⟨⟨?_, ?_, ?_, fun i i0 i1 => ?_, fun e e0 e1 => ?_⟩, fun e e0 e1 => ?_, ?_, fun i i0 i1 => ?_⟩
  · rw [z_Wf (by omega), z_up_ne (Or.inl (by decide))]; exact h1
  · rw [z_Wf (by omega), z_up_ne (Or.inl (by decide))]; exact h2
  · rw [z_Wf (by omega), z_up_ne (Or.inl (by decide))]; exact h3
  · rw [z_up_ne (Or.inl (by decide))] at i1
    rw [z_Wf (by omega), z_Wf (by omega), z_Wf (by omega), z_Wf (by omega), z_Wf (by omega), z_up_ne (Or.inl (by decide)), z_up_ne (Or.inl (by decide)), z_up_ne (Or.inl (by decide)), z_up_ne (Or.inl (by decide)), z_up_ne (Or.inl (by decide))]
    exact h4 i i0 i1
  · rw [z_up_ne (Or.inl (by decide))] at e1
    by_cases q : e = g
    · subst q; rw [z_W_same, z_up_same]
    · rw [z_W_ne (Or.inr q), z_up_ne (Or.inr q)]; exact h5 e e0 e1
  · rw [z_up_ne (Or.inl (by decide))] at e1
    unfold z_nm
    rw [z_Wf (by omega), z_Wf (by omega), z_up_ne (Or.inl (by decide))]; exact h6 e e0 e1
  · unfold z_lg
    rw [z_Wf (by omega), z_Wf (by omega), z_up_ne (Or.inl (by decide)), show z_up A 8 g n 11 = A 11 from funext fun _ => z_up_ne (Or.inl (by decide)), show z_up A 8 g n 12 = A 12 from funext fun _ => z_up_ne (Or.inl (by decide)), show z_up A 8 g n 13 = A 13 from funext fun _ => z_up_ne (Or.inl (by decide))]
    exact h7
  · rw [z_Wf (by omega)]; exact h8 i i0 i1
theorem z_pr_end {w : z_Mm} {P : Nat} {A : z_A} {n : Int} (h : z_pr w P A) : z_pr (z_W w P 9 n) P (z_up A 0 0 n) := by
  obtain ⟨⟨h1, h2, h3, h4, h5⟩, h6, h7, h8⟩ := h
  refine ⟨⟨?_, ?_, ?_, fun i i0 i1 => ?_, fun e e0 e1 => ?_⟩, fun e e0 e1 => ?_, ?_, fun i i0 i1 => ?_⟩
  · rw [z_W_same, z_up_same]
  · rw [z_W_ne (Or.inr (by decide)), z_up_ne (Or.inl (by decide))]; exact h2
  · rw [z_W_ne (Or.inr (by decide)), z_up_ne (Or.inl (by decide))]; exact h3
  · rw [z_up_ne (Or.inl (by decide))] at i1
    rw [z_Wf (by omega), z_Wf (by omega), z_Wf (by omega), z_Wf (by omega), z_Wf (by omega), z_up_ne (Or.inl (by decide)), z_up_ne (Or.inl (by decide)), z_up_ne (Or.inl (by decide)), z_up_ne (Or.inl (by decide)), z_up_ne (Or.inl (by decide))]
    exact h4 i i0 i1
  · rw [z_up_ne (Or.inl (by decide))] at e1
    rw [z_Wf (by omega), z_up_ne (Or.inl (by decide))]; exact h5 e e0 e1
  · rw [z_up_ne (Or.inl (by decide))] at e1
    unfold z_nm
    rw [z_Wf (by omega), z_Wf (by omega), z_up_ne (Or.inl (by decide))]; exact h6 e e0 e1
  · unfold z_lg
    rw [z_Wf (by omega), z_Wf (by omega), z_up_ne (Or.inl (by decide)), show z_up A 0 0 n 11 = A 11 from funext fun _ => z_up_ne (Or.inl (by decide)), show z_up A 0 0 n 12 = A 12 from funext fun _ => z_up_ne (Or.inl (by decide)), show z_up A 0 0 n 13 = A 13 from funext fun _ => z_up_ne (Or.inl (by decide))]
    exact h7
  · rw [z_Wf (by omega)]; exact h8 i i0 i1
theorem z_mr_pin {w : z_Mm} {A : z_A} {g n : Int} (h : z_mr (w 163) A) (hA : z_okg A) (g0 : 0 ≤ g) (g1 : g < 10) : z_mr (z_W w 163 (133 + g) (n + 1) 163) (z_up A 8 g n) := by
  obtain ⟨⟨h1, h2, h3, h4, h5⟩, h6, h7, h8, h9⟩ := h
  have r1 := hA.2.1
  have r2 := hA.2.2.1
  refine ⟨⟨?_, ?_, ?_, fun i i0 i1 => ?_, fun e e0 e1 => ?_⟩, fun e e0 e1 => ?_, by rw [z_up_ne (Or.inl (by decide))]; exact h7, ?_, fun i i0 i1 => ?_⟩
  · rw [z_W_ne (Or.inr (by omega)), z_up_ne (Or.inl (by decide))]; exact h1
  · rw [z_W_ne (Or.inr (by omega)), z_up_ne (Or.inl (by decide))]; exact h2
  · rw [z_W_ne (Or.inr (by omega)), z_up_ne (Or.inl (by decide))]; exact h3
  · rw [z_up_ne (Or.inl (by decide))] at i1
    rw [z_W_ne (Or.inr (by omega)), z_W_ne (Or.inr (by omega)), z_W_ne (Or.inr (by omega)), z_W_ne (Or.inr (by omega)), z_W_ne (Or.inr (by omega)), z_up_ne (Or.inl (by decide)), z_up_ne (Or.inl (by decide)), z_up_ne (Or.inl (by decide)), z_up_ne (Or.inl (by decide)), z_up_ne (Or.inl (by decide))]
    exact h4 i i0 i1
  · rw [z_up_ne (Or.inl (by decide))] at e1
    by_cases q : e = g
    · subst q; rw [z_W_same, z_up_same]
    · rw [z_W_ne (Or.inr (by omega)), z_up_ne (Or.inr q)]; exact h5 e e0 e1
  · rw [z_up_ne (Or.inl (by decide))] at e1
    rw [z_W_ne (Or.inr (by omega)), z_up_ne (Or.inl (by decide))]; exact h6 e e0 e1
  · rw [z_W_ne (Or.inr (by omega)), z_up_ne (Or.inl (by decide))]; exact h8
  · rw [z_up_ne (Or.inl (by decide))] at i1
    rw [z_W_ne (Or.inr (by omega)), z_W_ne (Or.inr (by omega)), z_W_ne (Or.inr (by omega)), z_up_ne (Or.inl (by decide)), z_up_ne (Or.inl (by decide)), z_up_ne (Or.inl (by decide))]; exact h9 i i0 i1
theorem z_mr_end {w : z_Mm} {A : z_A} {n : Int} (h : z_mr (w 163) A) (hA : z_okg A) : z_mr (z_W w 163 0 n 163) (z_up A 0 0 n) := by
  obtain ⟨⟨h1, h2, h3, h4, h5⟩, h6, h7, h8, h9⟩ := h
  have r1 := hA.2.1
  have r2 := hA.2.2.1
  refine ⟨⟨?_, ?_, ?_, fun i i0 i1 => ?_, fun e e0 e1 => ?_⟩, fun e e0 e1 => ?_, by rw [z_up_ne (Or.inl (by decide))]; exact h7, ?_, fun i i0 i1 => ?_⟩
  · rw [z_W_same, z_up_same]
  · rw [z_W_ne (Or.inr (by omega)), z_up_ne (Or.inl (by decide))]; exact h2
  · rw [z_W_ne (Or.inr (by omega)), z_up_ne (Or.inl (by decide))]; exact h3
  · rw [z_up_ne (Or.inl (by decide))] at i1
    rw [z_W_ne (Or.inr (by omega)), z_W_ne (Or.inr (by omega)), z_W_ne (Or.inr (by omega)), z_W_ne (Or.inr (by omega)), z_W_ne (Or.inr (by omega)), z_up_ne (Or.inl (by decide)), z_up_ne (Or.inl (by decide)), z_up_ne (Or.inl (by decide)), z_up_ne (Or.inl (by decide)), z_up_ne (Or.inl (by decide))]
    exact h4 i i0 i1
  · rw [z_up_ne (Or.inl (by decide))] at e1
    rw [z_W_ne (Or.inr (by omega)), z_up_ne (Or.inl (by decide))]; exact h5 e e0 e1
  · rw [z_up_ne (Or.inl (by decide))] at e1
    rw [z_W_ne (Or.inr (by omega)), z_up_ne (Or.inl (by decide))]; exact h6 e e0 e1
  · rw [z_W_ne (Or.inr (by omega)), z_up_ne (Or.inl (by decide))]; exact h8
  · rw [z_up_ne (Or.inl (by decide))] at i1
    rw [z_W_ne (Or.inr (by omega)), z_W_ne (Or.inr (by omega)), z_W_ne (Or.inr (by omega)), z_up_ne (Or.inl (by decide)), z_up_ne (Or.inl (by decide)), z_up_ne (Or.inl (by decide))]; exact h9 i i0 i1
/-- how many of the first k events are pinned -/
def z_np (A : z_A) : Nat → Int
  | 0 => 0
  | k + 1 => z_np A k + (if A 8 (k : Int) = -1 then 0 else 1)
theorem z_np_R {A : z_A} : ∀ k : Nat, 0 ≤ z_np A k ∧ z_np A k ≤ k
  | 0 => ⟨Int.le_refl _, Int.le_refl _⟩
  | k + 1 => by
    have := z_np_R (A := A) k
    rw [z_np]
    split <;> omega
theorem z_fipn {w : z_Mm} {P : Nat} {A : z_A} (hp : z_pg w P A) {e : Int} (e0 : 0 ≤ e) (e1 : e < A 1 0) : f_X3_isPinned w P e = if A 8 e = -1 then 0 else 1 := by
  unfold f_X3_isPinned
  rw [hp.2.2.2.2 e e0 e1]
theorem c_countPinned {sh : List z_C} {w : z_Mm} {P : Nat} {A : z_A} {K : Int → z_Mm → Prop} (hP : z_isPla sh P) (hA : z_okg A) (hp : z_pg w P A) (k : K (z_np A (A 1 0).toNat) w) : z_CI mX3_countPinned [z_r P] sh w K := by
  have r1 := hA.2.1
  have p1 : w P 10 = A 1 0 := hp.2.1
  refine z_CIi (t_X3_countPinned hP ?_)
  refine z_for (n := A 1 0) (i0 := 0) (fun i v => z_Sem mX3_countPinned (sh.length, 0) 4 [(0, z_r P), (1, z_i (z_np A i.toNat)), (2, z_i i)] [] (sh, v) _)
    (fun i v => v = w) (by omega) rfl ?_ ?_
  · rintro v rfl
    exact t_X3_countPinned_4 hP ⟨fun _ => ⟨_, _, rfl, rfl, k⟩, fun c => absurd c (by omega)⟩
  · rintro i v i0 i1 rfl kk
    have q := z_np_R (A := A) i.toNat
    have e1 : f_X8_asNumber v (f_X3_isPinned v P i) = if A 8 i = -1 then 0 else 1 := by
      rw [z_fipn hp i0 i1]
      unfold f_X8_asNumber
      split <;> simp
    rw [p1.symm] at i1
    refine t_X3_countPinned_4 hP ⟨fun c => absurd c (by omega), fun _ => ⟨⟨by omega, True.intro⟩, ?_, fun y4 e4 => ⟨⟨by omega, by omega⟩, ?_⟩⟩⟩
    · rw [e1]; split <;> exact ⟨by omega, by omega⟩
    · have := kk v rfl
      have ek : (i + 1).toNat = i.toNat + 1 := by omega
      rw [ek, z_np] at this
      rw [e4, e1]
      rw [show ((i.toNat : Nat) : Int) = i by omega] at this
      exact this
/-- feasible times between two feasible ones -/
theorem z_F_mid {A : z_A} {lo : Int} {x y : Int → Int} (hA : z_okg A) (hx : z_F A lo x) (hy : z_F A lo y) {e t : Int} (h1 : x e - x 0 ≤ t) (h2 : t ≤ y e - y 0) : ∃ z, z_F A lo z ∧ z e - z 0 = t := by
  have hx' := (z_F_iff hA).mpr hx
  have hy' := (z_F_iff hA).mpr hy
  refine ⟨fun v => min (y v + (- y 0)) (x v + (t - x e)), (z_F_iff hA).mp (z_Fe_min (z_Fe_add hy' _) (z_Fe_add hx' _)), ?_⟩
  show min (y e + (- y 0)) (x e + (t - x e)) - min (y 0 + (- y 0)) (x 0 + (t - x e)) = t
  omega
theorem z_F_pin {A : z_A} {e t : Int} (e0 : 1 ≤ e) (e1 : e < A 1 0) (hu : A 8 e = -1) (ht : t ≠ -1) {x : Int → Int} : z_F (z_up A 8 e t) (-1) x ↔ (z_F A (-1) x ∧ x e - x 0 = t) := by
  have u : ∀ (ch : Nat) (j : Int), ch ≠ 8 → z_up A 8 e t ch j = A ch j := fun ch j h => z_up_ne (Or.inl h)
  have ug : ∀ g, z_Fg (z_up A 8 e t) g x ↔ z_Fg A g x := fun g => by
    unfold z_Fg
    rw [u 3 g (by decide), u 4 g (by decide), u 5 g (by decide), u 6 g (by decide)]
  unfold z_F
  rw [u 2 0 (by decide), u 1 0 (by decide), u 0 0 (by decide)]
  constructor
  · rintro ⟨h1, h2, h3⟩
    refine ⟨⟨fun g g0 g1 g2 g3 => (ug g).mp (h1 g g0 g1 (by rw [u 7 g (by decide)]; exact g2) g3), h2, fun i i0 i1 i2 => ?_⟩, ?_⟩
    · have hi : i ≠ e := fun c => i2 (by rw [c]; exact hu)
      have := h3 i i0 i1 (by rw [z_up_ne (Or.inr hi)]; exact i2)
      rw [z_up_ne (Or.inr hi)] at this
      exact this
    · have := h3 e e0 e1 (by rw [z_up_same]; exact ht)
      rw [z_up_same] at this
      exact this
  · rintro ⟨⟨h1, h2, h3⟩, h4⟩
    refine ⟨fun g g0 g1 g2 g3 => (ug g).mpr (h1 g g0 g1 (by rw [u 7 g (by decide)] at g2; exact g2) g3), h2, fun i i0 i1 i2 => ?_⟩
    by_cases hi : i = e
    · subst hi; rw [z_up_same]; exact h4
    · rw [z_up_ne (Or.inr hi)] at i2 ⊢
      exact h3 i i0 i1 i2
theorem z_pin_iff {A : z_A} (hA : z_okg A) (hb : z_bears A) {e t : Int} (e0 : 1 ≤ e) (e1 : e < A 1 0) (hu : A 8 e = -1) (ht : 0 ≤ t) :
    z_bears (z_up A 8 e t) ↔ (- z_Dd (z_Sx A (-1)) (A 1 0) e 0 ≤ t ∧ t ≤ z_Dd (z_Sx A (-1)) (A 1 0) 0 e) := by
  have hsv := z_sv_A hA hb (-1)
  have r1 := hA.2.1
  have b0 : z_bl (A 1 0) 0 := ⟨by omega, by omega⟩
  have be : z_bl (A 1 0) e := ⟨by omega, by omega⟩
  obtain ⟨h1, y, hy, hy2⟩ := z_sv_D hsv 0 e b0 be
  obtain ⟨h3, x, hx, hx2⟩ := z_sv_D hsv e 0 be b0
  constructor
  · rintro ⟨z, hz⟩
    obtain ⟨q1, q2⟩ := (z_F_pin e0 e1 hu (by omega)).mp hz
    have := h1 z ((z_F_iff hA).mpr q1)
    have := h3 z ((z_F_iff hA).mpr q1)
    omega
  · rintro ⟨q1, q2⟩
    obtain ⟨z, hz, hz2⟩ := z_F_mid hA ((z_F_iff hA).mp hx) ((z_F_iff hA).mp hy) (e := e) (t := t) (by omega) (by omega)
    exact ⟨z, (z_F_pin e0 e1 hu (by omega)).mpr ⟨hz, hz2⟩⟩
theorem z_F_unpin {A : z_A} {e : Int} {x : Int → Int} (h : z_F A (-1) x) : z_F (z_up A 8 e (-1)) (-1) x := by
  have u : ∀ (ch : Nat) (j : Int), ch ≠ 8 → z_up A 8 e (-1) ch j = A ch j := fun ch j h => z_up_ne (Or.inl h)
  obtain ⟨h1, h2, h3⟩ := h
  unfold z_F
  rw [u 2 0 (by decide), u 1 0 (by decide), u 0 0 (by decide)]
  refine ⟨fun g g0 g1 g2 g3 => ?_, h2, fun i i0 i1 i2 => ?_⟩
  · have := h1 g g0 g1 (by rw [u 7 g (by decide)] at g2; exact g2) g3
    unfold z_Fg at this ⊢
    rw [u 3 g (by decide), u 4 g (by decide), u 5 g (by decide), u 6 g (by decide)]
    exact this
  · by_cases hi : i = e
    · subst hi; rw [z_up_same] at i2; exact absurd rfl i2
    · rw [z_up_ne (Or.inr hi)] at i2 ⊢
      exact h3 i i0 i1 i2
theorem z_F_end {A : z_A} {n : Int} {x : Int → Int} (h : z_F A (-1) x) (hn : ∀ e : Int, 1 ≤ e → e < A 1 0 → x e - x 0 ≤ n) : z_F (z_up A 0 0 n) (-1) x := by
  have u : ∀ (ch : Nat) (j : Int), ch ≠ 0 → z_up A 0 0 n ch j = A ch j := fun ch j h => z_up_ne (Or.inl h)
  obtain ⟨h1, h2, h3⟩ := h
  unfold z_F
  rw [u 2 0 (by decide), u 1 0 (by decide), z_up_same]
  refine ⟨fun g g0 g1 g2 g3 => ?_, fun e e0 e1 => ⟨hn e e0 e1, (h2 e e0 e1).2⟩, fun i i0 i1 i2 => ?_⟩
  · have := h1 g g0 g1 (by rw [u 7 g (by decide)] at g2; exact g2) g3
    unfold z_Fg at this ⊢
    rw [u 3 g (by decide), u 4 g (by decide), u 5 g (by decide), u 6 g (by decide)]
    exact this
  · rw [u 8 i (by decide)] at i2 ⊢
    exact h3 i i0 i1 i2
theorem z_end_iff {A : z_A} (hA : z_okg A) (hb : z_bears A) {n : Int} (hn : 0 ≤ n) :
    z_bears (z_up A 0 0 n) ↔ ∀ e : Int, 0 ≤ e → e < A 1 0 → - z_Dd (z_Sx A (-1)) (A 1 0) e 0 ≤ n := by
  have hsv := z_sv_A hA hb (-1)
  have r1 := hA.2.1
  have b0 : z_bl (A 1 0) 0 := ⟨by omega, by omega⟩
  constructor
  · rintro ⟨x, hx⟩ e e0 e1
    obtain ⟨y, hy⟩ := hb
    have u : ∀ (ch : Nat) (j : Int), ch ≠ 0 → z_up A 0 0 n ch j = A ch j := fun ch j h => z_up_ne (Or.inl h)
    obtain ⟨h1, h2, h3⟩ := hx
    rw [u 2 0 (by decide)] at h1
    rw [u 1 0 (by decide)] at h2 h3
    rw [z_up_same] at h2
    have hz : z_F A (-1) (fun v => min (x v + (- x 0)) (y v + (- y 0))) := by
      obtain ⟨g1, g2, g3⟩ := hy
      refine ⟨fun g q0 q1 q2 q3 => ?_, fun i i0 i1 => ?_, fun i i0 i1 i2 => ?_⟩
      · have a := h1 g q0 q1 (by rw [u 7 g (by decide)]; exact q2) q3
        have b := g1 g q0 q1 q2 q3
        unfold z_Fg at a b ⊢
        rw [u 3 g (by decide), u 4 g (by decide), u 5 g (by decide), u 6 g (by decide)] at a
        split at a
        · rename_i c
          rw [if_pos c] at b ⊢
          show min _ _ - min _ _ ≤ _
          omega
        · rename_i c
          rw [if_neg c] at b ⊢
          show min _ _ - min _ _ ≤ _
          omega
      · have a := h2 i i0 i1
        have b := g2 i i0 i1
        constructor
        · show min _ _ - min _ _ ≤ _
          omega
        · show min _ _ - min _ _ ≤ _
          omega
      · have a := h3 i i0 i1 (by rw [u 8 i (by decide)]; exact i2)
        have b := g3 i i0 i1 i2
        rw [u 8 i (by decide)] at a
        show min _ _ - min _ _ = _
        omega
    have := (z_sv_D hsv e 0 ⟨e0, e1⟩ b0).1 _ ((z_F_iff hA).mpr hz)
    by_cases he : e = 0
    · subst he
      have := z_D0 (z_sv_D hsv) b0
      omega
    · have a := h2 e (by omega) e1
      have t : min (x 0 + (- x 0)) (y 0 + (- y 0)) - min (x e + (- x 0)) (y e + (- y 0)) ≤ z_Dd (z_Sx A (-1)) (A 1 0) e 0 := this
      omega
  · intro h
    have hf := z_DFe' (z_sv_D hsv) hsv.2.1 b0
    refine ⟨_, z_F_end ((z_F_iff hA).mp hf) (fun e e0 e1 => ?_)⟩
    have a := h e (by omega) e1
    have b := z_D0 (z_sv_D hsv) b0
    show - z_Dd _ _ e 0 - - z_Dd _ _ 0 0 ≤ n
    omega
theorem c_greatest {sh : List z_C} {w : z_Mm} {N : Nat} {n : Int} {S : z_E} {K : Int → z_Mm → Prop} (hN : z_isNet sh N) (hS : z_sv S n) (h : z_bd w N n S)
    (k : ∀ v : Int, (0 ≤ v ∧ v ≤ 999) → (∀ e : Int, 0 ≤ e → e < n → - z_Dd S n e 0 ≤ v) → (v = 0 ∨ ∃ e : Int, 0 ≤ e ∧ e < n ∧ v = - z_Dd S n e 0) → K v w) : z_CI mX2_greatestEarliest [z_r N] sh w K := by
  have hn := hS.1
  have hb := h.1
  have b0 : z_bl n 0 := ⟨by omega, by omega⟩
  refine z_CIi (t_X2_greatestEarliest hN ?_)
  have main : ∀ (kk : Nat) (i x : Int), 0 ≤ i → i ≤ n → (n - i).toNat = kk → (0 ≤ x ∧ x ≤ 999) → (∀ e : Int, 0 ≤ e → e < i → - z_Dd S n e 0 ≤ x) → (x = 0 ∨ ∃ e : Int, 0 ≤ e ∧ e < n ∧ x = - z_Dd S n e 0) →
      z_Sem mX2_greatestEarliest (sh.length, 0) 4 [(0, z_r N), (1, z_i x), (2, z_i i)] [] (sh, w) (fun r σ => ∃ (x : Int) (w' : z_Mm), r = some (z_i x) ∧ σ = (sh, w') ∧ K x w') := by
    intro kk
    induction kk with
    | zero =>
      intro i x i0 i1 ik x0 hx hx2
      have : i = n := by omega
      subst this
      exact t_X2_greatestEarliest_4 hN ⟨fun _ => ⟨x, w, rfl, rfl, k x x0 hx hx2⟩, fun c => absurd c (by omega)⟩
    | succ kk ih =>
      intro i x i0 i1 ik x0 hx hx2
      have bi : z_bl n i := ⟨by omega, by omega⟩
      have r := z_D_R hS bi b0
      refine t_X2_greatestEarliest_4 hN ⟨fun c => absurd c (by omega), fun _ => ⟨z_sea hS h bi, fun y3 e3 => ⟨⟨by omega, by omega⟩, ?_⟩⟩⟩
      have ey : y3 = max x (- z_Dd S n i 0) := by
        rw [e3, z_fea hS h bi]
        unfold f_J9_max_7cf53
        split <;> omega
      have hy0 : 0 ≤ y3 ∧ y3 ≤ 999 := by clear hx2; omega
      have hkk : (n - (i + 1)).toNat = kk := by clear hx2; omega
      have hi0 : 0 ≤ i + 1 ∧ i + 1 ≤ n := by clear hx2; omega
      refine ih (i + 1) y3 hi0.1 hi0.2 hkk hy0 (fun e e0 e1 => ?_) ?_
      · by_cases q : e = i
        · subst q; omega
        · have := hx e e0 (by omega)
          omega
      · rcases hx2 with q | ⟨e, e0, e1, e2⟩
        · by_cases c : 0 ≤ - z_Dd S n i 0
          · exact Or.inr ⟨i, i0, by omega, by omega⟩
          · exact Or.inl (by omega)
        · by_cases c : x ≤ - z_Dd S n i 0
          · exact Or.inr ⟨i, i0, by omega, by omega⟩
          · exact Or.inr ⟨e, e0, e1, by omega⟩
  exact main _ 0 0 (by omega) (by omega) rfl (by omega) (fun e e0 e1 => absurd e1 (by omega)) (Or.inl rfl)
