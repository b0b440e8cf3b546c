/-! OPEN and RENAME -/
def z_opn (A : z_A) (v : Int) : z_A := z_up (z_up (z_up A 9 (A 1 0) v) 8 (A 1 0) (-1)) 1 0 (A 1 0 + 1)
theorem z_opn_1 {A : z_A} {v : Int} : z_opn A v 1 0 = A 1 0 + 1 := z_up_same
theorem z_opn_ne {A : z_A} {v j : Int} {ch : Nat} (h : ch ≠ 1 ∨ j ≠ 0) (h9 : ch ≠ 9 ∨ j ≠ A 1 0) (h8 : ch ≠ 8 ∨ j ≠ A 1 0) : z_opn A v ch j = A ch j := by
  unfold z_opn
  rw [z_up_ne h, z_up_ne h8, z_up_ne h9]
theorem z_opn_9 {A : z_A} {v : Int} (h : 1 ≤ A 1 0) : z_opn A v 9 (A 1 0) = v := by
  unfold z_opn
  rw [z_up_ne (Or.inl (by decide)), z_up_ne (Or.inl (by decide)), z_up_same]
theorem z_opn_8 {A : z_A} {v : Int} : z_opn A v 8 (A 1 0) = -1 := by
  unfold z_opn
  rw [z_up_ne (Or.inl (by decide)), z_up_same]
theorem z_okg_opn {A : z_A} {v : Int} (hA : z_okg A) (h : A 1 0 < 10) : z_okg (z_opn A v) := by
  obtain ⟨a0, a1, a2, a3, a4, a5⟩ := hA
  have u : ∀ (ch : Nat) (j : Int), (ch = 0 ∨ (2 ≤ ch ∧ ch ≤ 7)) → z_opn A v ch j = A ch j := fun ch j hc => z_opn_ne (by omega) (by omega) (by omega)
  refine ⟨by rw [u 0 0 (by omega)]; exact a0, by rw [z_opn_1]; omega, by rw [u 2 0 (by omega)]; exact a2, fun g g0 g1 => ?_, fun e e0 e1 => ?_, ?_⟩
  · rw [u 2 0 (by omega)] at g1
    obtain ⟨b1, b2, b3, b4, b5, b6⟩ := a3 g g0 g1
    rw [u 3 g (by omega), u 4 g (by omega), u 5 g (by omega), u 6 g (by omega), u 7 g (by omega), z_opn_1]
    exact ⟨⟨b1.1, by omega⟩, ⟨b2.1, by omega⟩, b3, b4, b5, b6⟩
  · rw [z_opn_1] at e1
    by_cases c : e = A 1 0
    · rw [c, z_opn_8]; omega
    · rw [z_opn_ne (by omega) (by omega) (by omega)]; exact a4 e e0 (by omega)
  · rw [z_opn_ne (by omega) (by omega) (by omega)]; exact a5
theorem z_bears_opn {A : z_A} {v : Int} (hA : z_okg A) (hb : z_bears A) : z_bears (z_opn A v) := by
  obtain ⟨x, h1, h2, h3⟩ := hb
  have r0 := hA.1
  have r1 := hA.2.1
  have u : ∀ (ch : Nat) (j : Int), (ch = 0 ∨ (2 ≤ ch ∧ ch ≤ 7)) → z_opn A v ch j = A ch j := fun ch j hc => z_opn_ne (by omega) (by omega) (by omega)
  have hx : ∀ j : Int, j < A 1 0 → (fun i => if i = A 1 0 then x 0 else x i) j = x j := fun j hj => if_neg (by omega)
  refine ⟨fun i => if i = A 1 0 then x 0 else x i, fun g g0 g1 g2 g3 => ?_, fun e e0 e1 => ?_, fun e e0 e1 e2 => ?_⟩
  · rw [u 2 0 (by omega)] at g1
    rw [u 7 g (by omega)] at g2
    obtain ⟨b1, b2, -⟩ := hA.2.2.2.1 g g0 g1
    have := h1 g g0 g1 g2 g3
    unfold z_Fg at this ⊢
    rw [u 3 g (by omega), u 4 g (by omega), u 5 g (by omega), u 6 g (by omega), hx _ b1.2, hx _ b2.2]
    exact this
  · rw [z_opn_1] at e1
    rw [u 0 0 (by omega), hx 0 (by omega)]
    by_cases c : e = A 1 0
    · show (if e = A 1 0 then x 0 else x e) - x 0 ≤ A 0 0 ∧ x 0 - (if e = A 1 0 then x 0 else x e) ≤ 0
      rw [if_pos c]
      omega
    · rw [hx e (by omega)]
      exact h2 e e0 (by omega)
  · rw [z_opn_1] at e1
    by_cases c : e = A 1 0
    · rw [c, z_opn_8] at e2
      exact absurd rfl e2
    · rw [z_opn_ne (by omega) (by omega) (by omega)] at e2 ⊢
      rw [hx 0 (by omega), hx e (by omega)]
      exact h3 e e0 (by omega) e2
theorem z_okn_opn {A : z_A} {v : Int} (hA : z_okg A) (h : z_okn A) (hv : z_vw v) : z_okn (z_opn A v) := by
  have r1 := hA.2.1
  obtain ⟨n1, n2, n3⟩ := h
  refine ⟨fun e e0 e1 => ?_, by rw [z_opn_ne (by omega) (by omega) (by omega)]; exact n2, by rw [z_opn_ne (by omega) (by omega) (by omega)]; exact n3⟩
  rw [z_opn_1] at e1
  by_cases c : e = A 1 0
  · rw [c, z_opn_9 r1.1]; exact hv
  · rw [z_opn_ne (by omega) (by omega) (by omega)]; exact n1 e e0 (by omega)
theorem c_addEvent {sh : List z_C} {w : z_Mm} {P : Nat} {A : z_A} {T : z_T} {p c : Int} {K : Int → z_Mm → Prop} (hT : z_isTG sh 0) (hP : z_isPla sh P) (hfar : P + 10 < 140 ∨ 141 < P) (h : z_tc w T) (hl : z_lts T p c) (hA : z_okg A) (hp : z_pr w P A) (hn : A 1 0 < 10)
    (k : ∀ w', z_pr w' P (z_opn A (z_tw T p c)) → z_frP w w' P → K (A 1 0) w') : z_CI mX3_addEvent [z_r P, z_r 140, z_i p, z_i c] sh w K := by
  have hTa : z_isTap sh 140 := hT.2.2.2.2.2.2.2.1
  have r1 := hA.2.1
  have p10 : w P 10 = A 1 0 := hp.1.2.1
  refine z_CIi (t_X3_addEvent hP hTa ⟨fun _ y2 e2 => ?_, fun q => absurd hn (by omega)⟩)
  rw [p10] at e2
  subst e2
  refine ⟨⟨by omega, by omega⟩, fun w3 e3 => ?_⟩
  have e31 : w3 P 10 = A 1 0 := by rw [e3, z_Wf (by omega)]; exact p10
  rw [e31]
  refine ⟨⟨by omega, by omega⟩, fun w6 e6 => ?_⟩
  have f6 : ∀ a : Nat, a ≠ P → a ≠ P + 3 → w6 a = w a := fun a a1 a2 => by rw [e6, z_Wf a1, e3, z_Wf a2]
  have h6 : z_tc w6 T := h.fr (f6 140 (by omega) (by omega)) (f6 141 (by omega) (by omega))
  refine c_nameEvent hT hP (by omega) h6 hl ⟨by omega, by omega⟩ (fun w7 n7 f7 g7 g8 => ⟨_, _, rfl, rfl, k w7 ?_ ?_⟩)
  · have q : ∀ a : Nat, a ≠ P → a ≠ P + 1 → a ≠ P + 2 → a ≠ P + 3 → w7 a = w a := fun a a1 a2 a3 a4 => by rw [f7 a a2 a3, f6 a a1 a4]
    have qP : ∀ j : Int, j ≠ 10 → w7 P j = w P j := fun j hj => by rw [f7 P (by omega) (by omega), e6, z_W_ne (Or.inr hj), e3, z_Wf (by omega)]
    have qP10 : w7 P 10 = A 1 0 + 1 := by rw [f7 P (by omega) (by omega), e6, z_W_same]
    have q3 : ∀ j : Int, j ≠ A 1 0 → w7 (P + 3) j = w (P + 3) j := fun j hj => by rw [f7 (P + 3) (by omega) (by omega), e6, z_Wf (by omega), e3, z_W_ne (Or.inr hj)]
    have q3n : w7 (P + 3) (A 1 0) = -1 := by rw [f7 (P + 3) (by omega) (by omega), e6, z_Wf (by omega), e3, z_W_same]
    obtain ⟨⟨b1, b2, b3, b4, b5⟩, b6, ⟨b7, b8, b9, b10⟩, b11⟩ := hp
    have u : ∀ (ch : Nat) (j : Int), (ch = 0 ∨ (2 ≤ ch ∧ ch ≤ 7) ∨ 10 ≤ ch) → z_opn A (z_tw T p c) ch j = A ch j := fun ch j hc => z_opn_ne (by omega) (by omega) (by omega)
    refine ⟨⟨by rw [qP 9 (by omega), u 0 0 (by omega)]; exact b1, by rw [qP10, z_opn_1], by rw [qP 11 (by omega), u 2 0 (by omega)]; exact b3, fun g g0 g1 => ?_, fun e e0 e1 => ?_⟩, fun e e0 e1 => ?_, ?_, fun g g0 g1 => ?_⟩
    · rw [u 2 0 (by omega)] at g1
      rw [q _ (by omega) (by omega) (by omega) (by omega), q _ (by omega) (by omega) (by omega) (by omega), q _ (by omega) (by omega) (by omega) (by omega), q _ (by omega) (by omega) (by omega) (by omega), q _ (by omega) (by omega) (by omega) (by omega), u 3 g (by omega), u 4 g (by omega), u 5 g (by omega), u 6 g (by omega), u 7 g (by omega)]
      exact b4 g g0 g1
    · rw [z_opn_1] at e1
      by_cases c0 : e = A 1 0
      · rw [c0, q3n, z_opn_8]
      · rw [q3 e c0, z_opn_ne (by omega) (by omega) (by omega)]
        exact b5 e e0 (by omega)
    · rw [z_opn_1] at e1
      by_cases c0 : e = A 1 0
      · rw [c0, z_opn_9 r1.1]
        exact n7
      · rw [z_opn_ne (by omega) (by omega) (by omega)]
        obtain ⟨d, d1, d5, m1, m2, m3⟩ := b6 e e0 (by omega)
        have gx : ∀ i : Int, 0 ≤ i → i < d → w7 (P + 1) (e * 5 + i) = w (P + 1) (e * 5 + i) := fun i i0 i1 => by rw [g7 _ (by omega), f6 _ (by omega) (by omega)]
        refine ⟨d, d1, d5, by rw [g8 e c0, f6 _ (by omega) (by omega)]; exact m1, fun i i0 i1 => by rw [gx i i0 i1]; exact m2 i i0 i1, ?_⟩
        rw [m3]
        exact z_word_congr (fun i i0 i1 => (gx i i0 i1).symm)
    · refine ⟨by rw [u 10 0 (by omega)]; exact b7, by rw [q _ (by omega) (by omega) (by omega) (by omega), u 10 0 (by omega)]; exact b8, by rw [q _ (by omega) (by omega) (by omega) (by omega)]; exact b9, fun i i0 i1 => ?_⟩
      rw [u 10 0 (by omega)] at i1
      rw [q _ (by omega) (by omega) (by omega) (by omega), q _ (by omega) (by omega) (by omega) (by omega), u 11 i (by omega), u 12 i (by omega), u 13 i (by omega)]
      exact b10 i i0 i1
    · rw [q _ (by omega) (by omega) (by omega) (by omega)]
      exact b11 g g0 g1
  · intro a ha
    rw [f7 a (by omega) (by omega), f6 a (by omega) (by omega)]
theorem z_pr_name {w w' : z_Mm} {P : Nat} {A : z_A} {e v : Int} (h : z_pr w P A) (hn : z_nm w' P e v) (f1 : ∀ a : Nat, a ≠ P + 1 → a ≠ P + 2 → w' a = w a) (f2 : ∀ j : Int, (j < 5 * e ∨ 5 * e + 5 ≤ j) → w' (P + 1) j = w (P + 1) j) (f3 : ∀ j : Int, j ≠ e → w' (P + 2) j = w (P + 2) j) : z_pr w' P (z_up A 9 e v) := by
  obtain ⟨⟨b1, b2, b3, b4, b5⟩, b6, ⟨b7, b8, b9, b10⟩, b11⟩ := h
  have u : ∀ (ch : Nat) (j : Int), ch ≠ 9 → z_up A 9 e v ch j = A ch j := fun ch j hc => z_up_ne (Or.inl hc)
  have q : ∀ a : Nat, a ≠ P + 1 → a ≠ P + 2 → w' a = w a := f1
  refine ⟨⟨by rw [q P (by omega) (by omega), u 0 0 (by decide)]; exact b1, by rw [q P (by omega) (by omega), u 1 0 (by decide)]; exact b2, by rw [q P (by omega) (by omega), u 2 0 (by decide)]; exact b3, fun g g0 g1 => ?_, fun i i0 i1 => ?_⟩, fun i i0 i1 => ?_, ?_, fun g g0 g1 => ?_⟩
  · rw [u 2 0 (by decide)] at g1
    rw [q _ (by omega) (by omega), q _ (by omega) (by omega), q _ (by omega) (by omega), q _ (by omega) (by omega), q _ (by omega) (by omega), u 3 g (by decide), u 4 g (by decide), u 5 g (by decide), u 6 g (by decide), u 7 g (by decide)]
    exact b4 g g0 g1
  · rw [u 1 0 (by decide)] at i1
    rw [q _ (by omega) (by omega), u 8 i (by decide)]
    exact b5 i i0 i1
  · rw [u 1 0 (by decide)] at i1
    by_cases c0 : i = e
    · rw [c0, z_up_same]
      exact hn
    · rw [z_up_ne (Or.inr c0)]
      obtain ⟨d, d1, d5, m1, m2, m3⟩ := b6 i i0 i1
      have gx : ∀ j : Int, 0 ≤ j → j < d → w' (P + 1) (i * 5 + j) = w (P + 1) (i * 5 + j) := fun j j0 j1 => f2 _ (by omega)
      refine ⟨d, d1, d5, by rw [f3 i c0]; exact m1, fun j j0 j1 => by rw [gx j j0 j1]; exact m2 j j0 j1, ?_⟩
      rw [m3]
      exact z_word_congr (fun j j0 j1 => (gx j j0 j1).symm)
  · refine ⟨by rw [u 10 0 (by decide)]; exact b7, by rw [q _ (by omega) (by omega), u 10 0 (by decide)]; exact b8, by rw [q _ (by omega) (by omega)]; exact b9, fun i i0 i1 => ?_⟩
    rw [u 10 0 (by decide)] at i1
    rw [q _ (by omega) (by omega), q _ (by omega) (by omega), u 11 i (by decide), u 12 i (by decide), u 13 i (by decide)]
    exact b10 i i0 i1
  · rw [q _ (by omega) (by omega)]
    exact b11 g g0 g1
/-- a new name on the tape -/
def z_nnp (A : z_A) (T : z_T) : Prop := z_tn0 T ≠ 0 ∧ z_nmd A (z_tn0 T) = -2
theorem z_tn0_t {T : z_T} (h : z_tn0 T ≠ 0) : z_lts T 0 T.1 ∧ z_tn0 T = z_tw T 0 T.1 := by
  unfold z_tn0 at h ⊢
  split
  · rename_i q
    exact ⟨q.1, rfl⟩
  · rename_i q
    exact absurd (if_neg q) h
theorem z_tn0_f {T : z_T} (h : z_tn0 T = 0) : ¬ (z_lts T 0 T.1 ∧ ¬ z_kwp (z_tw T 0 T.1)) := by
  intro q
  unfold z_tn0 at h
  rw [if_pos q] at h
  have := z_tw_R q.1
  omega
theorem c_isNewName {sh : List z_C} {w : z_Mm} {A : z_A} {T : z_T} {K : Int → z_Mm → Prop} (hT : z_isTG sh 0) (hA : z_okg A) (hp : z_pr w 1 A) (h : z_tc w T) (k1 : z_nnp A T → K 1 w) (k0 : ¬ z_nnp A T → K 0 w) : z_CI mX8_isNewNameOnTape [z_r 0] sh w K := by
  have h0 := h.1
  have e1 : w 140 1 = T.1 := h.2.1
  refine z_CIi (t_X8_isNewNameOnTape hT ?_)
  rw [e1]
  refine c_isName hT h (Int.le_refl _) h0.1 (fun hl hk => ⟨fun q => absurd q (by decide), fun _ => ?_⟩) (fun hn => ⟨fun _ => ⟨_, _, rfl, rfl, k0 (fun q => ?_)⟩, fun q => absurd rfl q⟩)
  · have et : z_tn0 T = z_tw T 0 T.1 := by
      unfold z_tn0
      exact if_pos ⟨hl, hk⟩
    have hR := z_tw_R hl
    have hf := z_fi1_is (p := fun e => A 9 e = z_tw T 0 T.1) (n := A 1 0) (by have := hA.2.1; omega)
    rw [e1]
    refine c_findEvent hT hT.2.1 h hl hA hp ?_
    by_cases q : z_nmd A (z_tw T 0 T.1) = -2
    · rw [if_pos q, if_pos rfl]
      exact ⟨_, _, rfl, rfl, k1 ⟨by omega, by rw [et]; exact q⟩⟩
    · have q' : ¬ z_nmd A (z_tw T 0 T.1) = -1 := by
        have e : z_nmd A (z_tw T 0 T.1) = z_fi1 (fun e => A 9 e = z_tw T 0 T.1) (A 1 0) := rfl
        rcases hf with ⟨x, -⟩ | ⟨x, -⟩ <;> omega
      rw [if_neg q, if_neg q']
      exact ⟨_, _, rfl, rfl, k0 (fun c => q (by rw [← et]; exact c.2))⟩
  · refine hn ?_
    obtain ⟨a, b⟩ := z_tn0_t q.1
    refine ⟨a, fun c => ?_⟩
    have : z_tn0 T = 0 := by
      unfold z_tn0
      exact if_neg (fun d => d.2 c)
    exact q.1 this
noncomputable def z_dopen (A : z_A) (H : List z_A) (T : z_T) : Int × z_A × List z_A × z_T :=
  @ite _ (z_nnp A T) (Classical.propDecidable _) (if A 1 0 = 10 then (-4, A, H, T) else (A 1 0, z_note (z_opn A (z_tn0 T)) 0 (A 1 0) (A 1 0 + 1), z_push H A, (0, T.2))) (-1, A, H, T)
theorem c_open {sh : List z_C} {w : z_Mm} {A : z_A} {H : List z_A} {T : z_T} {K : Int → z_Mm → Prop} (hT : z_isTG sh 0) (hs : z_cs w A H) (h : z_tc w T)
    (k : ∀ w', z_cs w' (z_dopen A H T).2.1 (z_dopen A H T).2.2.1 → z_tc w' (z_dopen A H T).2.2.2 → (∀ a : Nat, (a < 1 ∨ 113 < a) → a ≠ 140 → w' a = w a) → K (z_dopen A H T).1 w') : z_CI mX8_open [z_r 0] sh w K := by
  obtain ⟨hA, hp, hn, hok, hh⟩ := id hs
  have r1 := hA.1.2.1
  have p10 : w 1 10 = A 1 0 := hp.1.2.1
  unfold z_dopen at k
  refine z_CIi (t_X8_open hT ?_)
  refine c_isNewName hT hA.1 hp h (fun q => ⟨fun c => absurd c (by decide), fun _ => ⟨fun c => ?_, fun c => ?_⟩⟩) (fun q => ⟨fun _ => ?_, fun c => absurd rfl c⟩)
  · rw [if_pos q, if_pos (by omega)] at k
    exact ⟨_, _, rfl, rfl, k w hs h (fun _ _ _ => rfl)⟩
  · rw [if_pos q, if_neg (by omega)] at k
    obtain ⟨hl, et⟩ := z_tn0_t q.1
    refine c_rem hT hs (fun w5 q1 q2 q3 q4 q5 => ?_)
    have h5 : z_tc w5 T := h.fr (q4 140 (by omega)) (q4 141 (by omega))
    rw [show w5 140 1 = T.1 from h5.2.1]
    refine c_addEvent hT hT.2.1 (by omega) h5 hl hA.1 q1 (by omega) (fun w6 a6 f6 w8 e8 => ?_)
    rw [← et] at a6
    have f8 : ∀ a : Nat, a ≠ 140 → w8 a = w6 a := fun a ha => by rw [e8, z_Wf ha]
    have hB : z_ok (z_opn A (z_tn0 T)) := ⟨z_okg_opn hA.1 (by omega), z_bears_opn hA.1 hA.2.1, z_okn_opn hA.1 hA.2.2 (by rw [et]; exact z_tw_vw hl)⟩
    have a8 : z_pr w8 1 (z_opn A (z_tn0 T)) := a6.fr hB.1 (fun a a0 a1 => f8 a (by omega))
    have h8 : z_hr w8 (z_push H A) := q2.fr (fun C hC => (q3 C hC).1) (fun a a0 a1 => by rw [f8 a (by omega), f6 a (by omega)])
    rw [show w8 1 10 = A 1 0 + 1 from a8.1.2.1.trans z_opn_1]
    refine c_finish hT hB a8 h8 q3 (fun w9 c9 f9 => ⟨_, _, rfl, rfl, k w9 c9 ?_ ?_⟩)
    · refine ⟨⟨Int.le_refl _, by show (0 : Int) ≤ 900; omega⟩, ?_, fun i i0 i1 => absurd i1 (by show ¬ i < 0; omega)⟩
      rw [f9 140 (by omega), e8, z_W_same]
    · intro a ha h140
      rw [f9 a ha, f8 a h140, f6 a (by omega), q4 a ha]
  · rw [if_neg q] at k
    exact ⟨_, _, rfl, rfl, k w hs h (fun _ _ _ => rfl)⟩
noncomputable def z_dren (A : z_A) (H : List z_A) (T : z_T) (e : Int) : Int × z_A × List z_A × z_T :=
  if 0 ≤ e ∧ e < A 1 0 then @ite _ (z_nnp A T) (Classical.propDecidable _) (if e = 0 then (-3, A, H, T) else (T.1, z_note (z_up A 9 e (z_tn0 T)) 9 e T.1, z_push H A, (0, T.2))) (-1, A, H, T) else (-1, A, H, T)
theorem z_ren_F {A : z_A} {e v lo : Int} {x : Int → Int} : z_F (z_up A 9 e v) lo x ↔ z_F A lo x := by
  have u : ∀ (ch : Nat) (j : Int), ch ≠ 9 → z_up A 9 e v ch j = A ch j := fun ch j hc => z_up_ne (Or.inl hc)
  unfold z_F z_Fg
  simp only [u 0 _ (by decide), u 1 _ (by decide), u 2 _ (by decide), u 3 _ (by decide), u 4 _ (by decide), u 5 _ (by decide), u 6 _ (by decide), u 7 _ (by decide), u 8 _ (by decide)]
theorem z_ok_ren {A : z_A} {e v : Int} (hA : z_ok A) (he : e ≠ 0) (hv : z_vw v) : z_ok (z_up A 9 e v) := by
  have u : ∀ (ch : Nat) (j : Int), ch ≠ 9 → z_up A 9 e v ch j = A ch j := fun ch j hc => z_up_ne (Or.inl hc)
  obtain ⟨⟨a0, a1, a2, a3, a4, a5⟩, ⟨x, hx⟩, n1, n2, n3⟩ := hA
  refine ⟨⟨by rw [u 0 0 (by decide)]; exact a0, by rw [u 1 0 (by decide)]; exact a1, by rw [u 2 0 (by decide)]; exact a2, fun g g0 g1 => ?_, fun i i0 i1 => ?_, by rw [u 8 0 (by decide)]; exact a5⟩, ⟨x, z_ren_F.mpr hx⟩, fun i i0 i1 => ?_, ?_, ?_⟩
  · rw [u 2 0 (by decide)] at g1
    rw [u 1 0 (by decide), u 3 g (by decide), u 4 g (by decide), u 5 g (by decide), u 6 g (by decide), u 7 g (by decide)]
    exact a3 g g0 g1
  · rw [u 1 0 (by decide)] at i1
    rw [u 8 i (by decide)]
    exact a4 i i0 i1
  · rw [u 1 0 (by decide)] at i1
    by_cases c : i = e
    · rw [c, z_up_same]; exact hv
    · rw [z_up_ne (Or.inr c)]; exact n1 i i0 i1
  · rw [z_up_ne (Or.inr (Ne.symm he))]; exact n2
  · rw [u 10 0 (by decide)]; exact n3
theorem c_rename {sh : List z_C} {w : z_Mm} {A : z_A} {H : List z_A} {T : z_T} {e : Int} {K : Int → z_Mm → Prop} (hT : z_isTG sh 0) (hs : z_cs w A H) (h : z_tc w T)
    (k : ∀ w', z_cs w' (z_dren A H T e).2.1 (z_dren A H T e).2.2.1 → z_tc w' (z_dren A H T e).2.2.2 → (∀ a : Nat, (a < 1 ∨ 113 < a) → a ≠ 140 → w' a = w a) → K (z_dren A H T e).1 w') : z_CI mX8_rename [z_r 0, z_i e] sh w K := by
  obtain ⟨hA, hp, hn, hok, hh⟩ := id hs
  have r1 := hA.1.2.1
  have p10 : w 1 10 = A 1 0 := hp.1.2.1
  have h1 := z_fev (w := w) (e := e)
  rw [p10] at h1
  unfold z_dren at k
  refine z_CIi (t_X8_rename hT ⟨fun c => ?_, fun c => ?_⟩)
  · rw [if_neg (h1.mp c)] at k
    exact ⟨_, _, rfl, rfl, k w hs h (fun _ _ _ => rfl)⟩
  have d : 0 ≤ e ∧ e < A 1 0 := Classical.byContradiction fun q => c (h1.mpr q)
  rw [if_pos d] at k
  refine c_isNewName hT hA.1 hp h (fun q => ⟨fun c => absurd c (by decide), fun _ => ⟨fun c => ?_, fun c => ?_⟩⟩) (fun q => ⟨fun _ => ?_, fun c => absurd rfl c⟩)
  · rw [if_pos q, if_pos c] at k
    exact ⟨_, _, rfl, rfl, k w hs h (fun _ _ _ => rfl)⟩
  · rw [if_pos q, if_neg c] at k
    obtain ⟨hl, et⟩ := z_tn0_t q.1
    intro y6 e6
    rw [h.2.1] at e6
    subst e6
    refine c_rem hT hs (fun w5 q1 q2 q3 q4 q5 => ?_)
    have h5 : z_tc w5 T := h.fr (q4 140 (by omega)) (q4 141 (by omega))
    refine c_nameEvent hT hT.2.1 (by omega) h5 hl ⟨d.1, by omega⟩ (fun w6 n6 f6 g6 g7 w8 e8 => ?_)
    rw [← et] at n6
    have a6 : z_pr w6 1 (z_up A 9 e (z_tn0 T)) := z_pr_name q1 n6 f6 g6 g7
    have f8 : ∀ a : Nat, a ≠ 140 → w8 a = w6 a := fun a ha => by rw [e8, z_Wf ha]
    have hB : z_ok (z_up A 9 e (z_tn0 T)) := z_ok_ren hA c (by rw [et]; exact z_tw_vw hl)
    have a8 : z_pr w8 1 (z_up A 9 e (z_tn0 T)) := a6.fr hB.1 (fun a a0 a1 => f8 a (by omega))
    have h8 : z_hr w8 (z_push H A) := q2.fr (fun C hC => (q3 C hC).1) (fun a a0 a1 => by rw [f8 a (by omega), f6 a (by omega) (by omega)])
    refine c_finish hT hB a8 h8 q3 (fun w9 c9 f9 => ⟨_, _, rfl, rfl, k w9 c9 ?_ ?_⟩)
    · refine ⟨⟨Int.le_refl _, by show (0 : Int) ≤ 900; omega⟩, ?_, fun i i0 i1 => absurd i1 (by show ¬ i < 0; omega)⟩
      rw [f9 140 (by omega), e8, z_W_same]
    · intro a ha h140
      rw [f9 a ha, f8 a h140, f6 a (by omega) (by omega), q4 a ha]
  · rw [if_neg q] at k
    exact ⟨_, _, rfl, rfl, k w hs h (fun _ _ _ => rfl)⟩
/-! the reference -/
theorem z_mr_name {w : z_Mm} {A : z_A} {e v : Int} (h : z_mr (w 163) A) (hA : z_okg A) (he : 0 ≤ e ∧ e < 10) : z_mr (z_W w 163 (3 + e) v 163) (z_up A 9 e v) := by
  have r2 := hA.2.2.1
  have r1 := hA.2.1
  obtain ⟨⟨b1, b2, b3, b4, b5⟩, b6, b7, b8, b9⟩ := h
  have u : ∀ (ch : Nat) (j : Int), ch ≠ 9 → z_up A 9 e v ch j = A ch j := fun ch j hc => z_up_ne (Or.inl hc)
  have q : ∀ j : Int, j ≠ 3 + e → z_W w 163 (3 + e) v 163 j = w 163 j := fun j hj => z_W_ne (Or.inr hj)
  refine ⟨⟨by rw [q 0 (by omega), u 0 0 (by decide)]; exact b1, by rw [q 1 (by omega), u 1 0 (by decide)]; exact b2, by rw [q 2 (by omega), u 2 0 (by decide)]; exact b3, fun g g0 g1 => ?_, fun i i0 i1 => ?_⟩, fun i i0 i1 => ?_, by rw [u 10 0 (by decide)]; exact b7, by rw [q 143 (by omega), u 10 0 (by decide)]; exact b8, fun i i0 i1 => ?_⟩
  · rw [u 2 0 (by decide)] at g1
    rw [q _ (by omega), q _ (by omega), q _ (by omega), q _ (by omega), q _ (by omega), u 3 g (by decide), u 4 g (by decide), u 5 g (by decide), u 6 g (by decide), u 7 g (by decide)]
    exact b4 g g0 g1
  · rw [u 1 0 (by decide)] at i1
    rw [q _ (by omega), u 8 i (by decide)]
    exact b5 i i0 i1
  · rw [u 1 0 (by decide)] at i1
    by_cases c : i = e
    · rw [c, z_W_same, z_up_same]
    · rw [q _ (by omega), z_up_ne (Or.inr c)]
      exact b6 i i0 i1
  · rw [u 10 0 (by decide)] at i1
    rw [q _ (by omega), q _ (by omega), q _ (by omega), u 11 i (by decide), u 12 i (by decide), u 13 i (by decide)]
    exact b9 i i0 i1
/-- all but the tape's length stays -/
def z_frZ (w w' : z_Mm) : Prop := (∀ a : Nat, (a < 161 ∨ 176 < a ∨ a = 162 ∨ a = 166 ∨ a = 167) → w' a = w a) ∧ w' 161 2 = w 161 2
theorem z_frX.Z {w w' : z_Mm} (h : z_frX w w') : z_frZ w w' := ⟨h.1, h.2.2⟩
theorem z_frZ.trans {w w1 w2 : z_Mm} (h1 : z_frZ w w1) (h2 : z_frZ w1 w2) : z_frZ w w2 := ⟨fun a h => (h2.1 a h).trans (h1.1 a h), h2.2.trans h1.2⟩
