/-! NAMES ON THE TAPE -/
theorem z_word_inj {f g : Int → Int} {c d : Nat} (c1 : 1 ≤ c) (c5 : c ≤ 5) (d1 : 1 ≤ d) (d5 : d ≤ 5) (hf : ∀ i : Int, 0 ≤ i → i < c → 97 ≤ f i ∧ f i ≤ 122) (hg : ∀ i : Int, 0 ≤ i → i < d → 97 ≤ g i ∧ g i ≤ 122) :
    z_word f c = z_word g d ↔ (c = d ∧ ∀ i : Int, 0 ≤ i → i < c → f i = g i) := by
  obtain ⟨-, a2, a3⟩ := z_wdl c1 c5 hf
  obtain ⟨-, b2, b3⟩ := z_wdl d1 d5 hg
  constructor
  · intro h
    have e : c = d := by
      rw [h, b2] at a2
      omega
    subst e
    refine ⟨rfl, fun i i0 i1 => ?_⟩
    have x := a3 i i0 i1
    have y := b3 i i0 i1
    rw [h] at x
    omega
  · rintro ⟨rfl, h⟩
    exact z_word_congr h
def z_skey (s : Nat) : Int := z_word (fun i => z_chr s i) (z_len.getD s 0)
theorem z_skeys : z_skey 0 = 20579924 ∧ z_skey 1 = 441972 ∧ z_skey 2 = 12748404 ∧ z_skey 3 = 5572 ∧ z_skey 4 = 15558 ∧ z_skey 5 = 5969364 ∧ z_skey 6 = 7216 ∧ z_skey 7 = 16686 ∧ z_skey 8 = 5572 ∧ z_skey 9 = 5969364 ∧ z_skey 10 = 7216 ∧ z_skey 11 = 20579924 ∧ z_skey 12 = 441972 ∧ z_skey 13 = 12748404 ∧ z_skey 14 = 15558 ∧ z_skey 15 = 16686 := by decide +kernel
theorem z_slet : ∀ s : Nat, s < 16 → (1 ≤ z_len.getD s 0 ∧ z_len.getD s 0 ≤ 5) ∧ ∀ j : Nat, j < z_len.getD s 0 → 97 ≤ z_chr s (j : Int) ∧ z_chr s (j : Int) ≤ 122 := by decide +kernel
/-- letters lie on the tape from p on -/
def z_lts (T : z_T) (p c : Int) : Prop := 0 ≤ p ∧ p + c ≤ T.1 ∧ (1 ≤ c ∧ c ≤ 5) ∧ ∀ i : Int, 0 ≤ i → i < c → 97 ≤ T.2 (p + i) ∧ T.2 (p + i) ≤ 122
def z_tw (T : z_T) (p c : Int) : Int := z_word (fun i => T.2 (p + i)) c.toNat
theorem z_tc.at {w : z_Mm} {T : z_T} (h : z_tc w T) {i : Int} (i0 : 0 ≤ i) (i1 : i < T.1) : f_X6_byteAt w i = T.2 i ∧ s_X6_byteAt w i := by
  obtain ⟨h0, h1, h2⟩ := h
  refine ⟨?_, fun _ => ⟨fun _ => ⟨⟨by omega, by omega⟩, True.intro⟩, True.intro⟩, True.intro⟩
  unfold f_X6_byteAt
  rw [if_neg (by omega), if_neg (by omega)]
  exact (h2 i i0 i1).1
theorem z_tc.out {w : z_Mm} {T : z_T} (h : z_tc w T) {i : Int} (i0 : 0 ≤ i) (i1 : T.1 ≤ i) : f_X6_byteAt w i = -1 ∧ s_X6_byteAt w i := by
  obtain ⟨h0, h1, h2⟩ := h
  refine ⟨?_, fun _ => ⟨fun c => absurd c (by omega), True.intro⟩, True.intro⟩
  unfold f_X6_byteAt
  rw [if_neg (by omega), if_pos (by omega)]
theorem c_spells {sh : List z_C} {w : z_Mm} {T : z_T} {p c : Int} {s : Nat} {K : Int → z_Mm → Prop} (hT : z_isTG sh 0) (hs : s < 16) (h : z_tc w T) (hl : z_lts T p c) (k1 : z_tw T p c = z_skey s → K 1 w) (k0 : z_tw T p c ≠ z_skey s → K 0 w) : z_CI mX6_spells [z_r 140, z_i p, z_i c, z_r (1001 + s)] sh w K := by
  have hP : z_isTap sh 140 := hT.2.2.2.2.2.2.2.1
  obtain ⟨l0, l1, l2, l3⟩ := hl
  obtain ⟨q1, q2⟩ := z_slet s hs
  have eL : f_J0_length_8abf5 w s = ((z_len.getD s 0 : Nat) : Int) := rfl
  have inj := z_word_inj (f := fun i => T.2 (p + i)) (g := fun i => z_chr s i) (c := c.toNat) (d := z_len.getD s 0) (by omega) (by omega) q1.1 q1.2 (fun i i0 i1 => l3 i i0 (by omega)) (fun i i0 i1 => by
    have := q2 i.toNat (by omega)
    rw [show ((i.toNat : Nat) : Int) = i by omega] at this
    exact this)
  have body : ∀ (i : Int) (Q : Option z_V → z_S → Prop), 0 ≤ i → i < c → c = ((z_len.getD s 0 : Nat) : Int) → (T.2 (p + i) = z_chr s i → z_Sem mX6_spells (sh.length, 0) 13 [(0, z_r 140), (1, z_i p), (2, z_i c), (3, z_r (1001 + s)), (4, z_i (i + 1))] [] (sh, w) Q) → (T.2 (p + i) ≠ z_chr s i → Q (some (z_i 0)) (sh, w)) → z_Sem mX6_spells (sh.length, 0) 13 [(0, z_r 140), (1, z_i p), (2, z_i c), (3, z_r (1001 + s)), (4, z_i i)] [] (sh, w) Q := by
    intro i Q i0 i1 ec g1 g0
    obtain ⟨b1, b2⟩ := h.at (i := p + i) (by omega) (by omega)
    have ech : f_J0_charAt_5068e w s i = z_chr s i := rfl
    refine t_X6_spells_13 hP (by omega) ⟨fun q => absurd q (by omega), fun _ => ⟨fun q => absurd q (by rw [eL]; omega), fun _ => ?_⟩⟩
    rw [b1, ech]
    exact ⟨⟨by have := h.1; omega, by have := h.1; omega⟩, b2, ⟨⟨i0, by rw [eL]; omega⟩, True.intro⟩, fun d => ⟨⟨by omega, by omega⟩, g1 d⟩, fun d => g0 d⟩
  refine z_CIi (t_X6_spells hP (by omega) ?_)
  rw [eL]
  refine ⟨fun ec => ?_, fun ec => ⟨_, _, rfl, rfl, k0 (fun e => ec (by have := (inj.mp e).1; omega))⟩⟩
  by_cases e : z_tw T p c = z_skey s
  · have all := (inj.mp e).2
    refine z_for (n := c) (i0 := 0) (fun i v => z_Sem mX6_spells (sh.length, 0) 13 [(0, z_r 140), (1, z_i p), (2, z_i c), (3, z_r (1001 + s)), (4, z_i i)] [] (sh, v) _) (fun i v => v = w) (by omega) rfl ?_ ?_
    · rintro v rfl
      exact t_X6_spells_13 hP (by omega) ⟨fun _ => ⟨_, _, rfl, rfl, k1 e⟩, fun q => absurd (Int.le_refl _) q⟩
    · rintro i v i0 i1 rfl kk
      exact body i _ i0 i1 ec (fun _ => kk v rfl) (fun q => absurd (all i i0 (by omega)) q)
  · have hf := z_fi1_is (p := fun i => T.2 (p + i) ≠ z_chr s i) (n := c) (by omega)
    rcases hf with ⟨-, no⟩ | ⟨j0, j1, j2, j3⟩
    · exact absurd (inj.mpr ⟨by omega, fun i i0 i1 => Classical.byContradiction (no i i0 (by omega))⟩) e
    · refine z_for (n := z_fi1 (fun i => T.2 (p + i) ≠ z_chr s i) c) (i0 := 0) (fun i v => z_Sem mX6_spells (sh.length, 0) 13 [(0, z_r 140), (1, z_i p), (2, z_i c), (3, z_r (1001 + s)), (4, z_i i)] [] (sh, v) _) (fun i v => v = w) j0 rfl ?_ ?_
      · rintro v rfl
        exact body _ _ j0 j1 ec (fun q => absurd q j2) (fun _ => ⟨_, _, rfl, rfl, k0 e⟩)
      · rintro i v i0 i1 rfl kk
        exact body i _ i0 (by omega) ec (fun _ => kk v rfl) (fun q => absurd q (j3 i i0 i1))
/-- keywords -/
def z_kwp (v : Int) : Prop := v = 5572 ∨ v = 5969364 ∨ v = 7216 ∨ v = 20579924 ∨ v = 441972 ∨ v = 12748404 ∨ v = 15558 ∨ v = 16686
theorem c_isKeyword {sh : List z_C} {w : z_Mm} {T : z_T} {p c : Int} {K : Int → z_Mm → Prop} (hT : z_isTG sh 0) (h : z_tc w T) (hl : z_lts T p c) (k1 : z_kwp (z_tw T p c) → K 1 w) (k0 : ¬ z_kwp (z_tw T p c) → K 0 w) : z_CI mX6_isKeyword [z_r 140, z_i p, z_i c] sh w K := by
  have hP : z_isTap sh 140 := hT.2.2.2.2.2.2.2.1
  obtain ⟨-, -, -, -, -, -, -, -, s8, s9, s10, s11, s12, s13, s14, s15⟩ := z_skeys
  unfold z_kwp at k1 k0
  refine z_CIi (t_X6_isKeyword hP ?_)
  have one : ¬ (1 : Int) = 0 := by decide
  refine c_spells hT (s := 8) (by omega) h hl (fun e => ⟨fun q => absurd q one, fun _ => ⟨_, _, rfl, rfl, k1 (by omega)⟩⟩) (fun e8 => ⟨fun _ => ?_, fun q => absurd rfl q⟩)
  refine c_spells hT (s := 9) (by omega) h hl (fun e => ⟨fun q => absurd q one, fun _ => ⟨_, _, rfl, rfl, k1 (by omega)⟩⟩) (fun e9 => ⟨fun _ => ?_, fun q => absurd rfl q⟩)
  refine c_spells hT (s := 10) (by omega) h hl (fun e => ⟨fun q => absurd q one, fun _ => ⟨_, _, rfl, rfl, k1 (by omega)⟩⟩) (fun e10 => ⟨fun _ => ?_, fun q => absurd rfl q⟩)
  refine c_spells hT (s := 11) (by omega) h hl (fun e => ⟨fun q => absurd q one, fun _ => ⟨_, _, rfl, rfl, k1 (by omega)⟩⟩) (fun e11 => ⟨fun _ => ?_, fun q => absurd rfl q⟩)
  refine c_spells hT (s := 12) (by omega) h hl (fun e => ⟨fun q => absurd q one, fun _ => ⟨_, _, rfl, rfl, k1 (by omega)⟩⟩) (fun e12 => ⟨fun _ => ?_, fun q => absurd rfl q⟩)
  refine c_spells hT (s := 13) (by omega) h hl (fun e => ⟨fun q => absurd q one, fun _ => ⟨_, _, rfl, rfl, k1 (by omega)⟩⟩) (fun e13 => ⟨fun _ => ?_, fun q => absurd rfl q⟩)
  refine c_spells hT (s := 14) (by omega) h hl (fun e => ⟨fun q => absurd q one, fun _ => ⟨_, _, rfl, rfl, k1 (by omega)⟩⟩) (fun e14 => ⟨fun _ => ?_, fun q => absurd rfl q⟩)
  refine c_spells hT (s := 15) (by omega) h hl (fun e => ⟨_, _, rfl, rfl, k1 (by omega)⟩) (fun e15 => ⟨_, _, rfl, rfl, k0 (by omega)⟩)
/-! runs -/
def z_rne (g : Int → Prop) (a n e : Int) : Prop := a ≤ e ∧ e ≤ n ∧ (∀ i : Int, a ≤ i → i < e → g i) ∧ (e < n → ¬ g e)
theorem z_rne_ex (g : Int → Prop) : ∀ (k : Nat) (a : Int), ∃ e, z_rne g a (a + k) e
  | 0, a => ⟨a, Int.le_refl _, by omega, fun i i0 i1 => absurd i1 (by omega), fun c => absurd c (by omega)⟩
  | k + 1, a => by
    by_cases c : g a
    · obtain ⟨e, e1, e2, e3, e4⟩ := z_rne_ex g k (a + 1)
      refine ⟨e, by omega, by omega, fun i i0 i1 => ?_, fun q => e4 (by omega)⟩
      by_cases q : i = a
      · rw [q]; exact c
      · exact e3 i (by omega) i1
    · exact ⟨a, Int.le_refl _, by omega, fun i i0 i1 => absurd i1 (by omega), fun _ => c⟩
theorem z_rne_u {g : Int → Prop} {a n e e' : Int} (h : z_rne g a n e) (h' : z_rne g a n e') : e = e' := by
  obtain ⟨h1, h2, h3, h4⟩ := h
  obtain ⟨h1', h2', h3', h4'⟩ := h'
  rcases Int.lt_trichotomy e e' with c | c | c
  · exact absurd (h3' e h1 c) (h4 (by omega))
  · exact c
  · exact absurd (h3 e' h1' c) (h4' (by omega))
noncomputable def z_rn (g : Int → Prop) (a n : Int) : Int := Classical.epsilon (fun e => z_rne g a n e)
theorem z_rn_is {g : Int → Prop} {a n : Int} (h : a ≤ n) : z_rne g a n (z_rn g a n) := by
  obtain ⟨e, he⟩ := z_rne_ex g (n - a).toNat a
  rw [show a + ((n - a).toNat : Int) = n by omega] at he
  exact Classical.epsilon_spec (p := fun e => z_rne g a n e) ⟨e, he⟩
def z_ltr (T : z_T) (i : Int) : Prop := 97 ≤ T.2 i ∧ T.2 i ≤ 122
def z_dgt (T : z_T) (i : Int) : Prop := 48 ≤ T.2 i ∧ T.2 i ≤ 57
def z_spc (T : z_T) (i : Int) : Prop := T.2 i = 32 ∨ T.2 i = 10
theorem z_flt {w : z_Mm} {b : Int} : f_X6_isLetter w b = 0 ↔ ¬ (97 ≤ b ∧ b ≤ 122) := by
  unfold f_X6_isLetter
  (repeat' split) <;> omega
theorem z_fdt {w : z_Mm} {b : Int} : f_X6_isDigit w b = 0 ↔ ¬ (48 ≤ b ∧ b ≤ 57) := by
  unfold f_X6_isDigit
  (repeat' split) <;> omega
theorem c_countLetters {sh : List z_C} {w : z_Mm} {T : z_T} {p : Int} {K : Int → z_Mm → Prop} (hT : z_isTG sh 0) (h : z_tc w T) (p0 : 0 ≤ p) (p1 : p ≤ T.1) (k : K (z_rn (z_ltr T) p T.1 - p) w) : z_CI mX6_countLetters [z_r 140, z_i p] sh w K := by
  have hP : z_isTap sh 140 := hT.2.2.2.2.2.2.2.1
  obtain ⟨r1, r2, r3, r4⟩ := z_rn_is (g := z_ltr T) p1
  have h0 := h.1
  have h1 := h.2.1
  refine z_CIi (t_X6_countLetters hP ?_)
  refine z_for (n := z_rn (z_ltr T) p T.1) (i0 := p) (fun i v => z_Sem mX6_countLetters (sh.length, 0) 2 [(0, z_r 140), (1, z_i p), (2, z_i i)] [] (sh, v) _) (fun i v => v = w) r1 rfl ?_ ?_
  · rintro v rfl
    refine t_X6_countLetters_2 hP ⟨fun _ => ⟨⟨by omega, by omega⟩, _, _, rfl, rfl, k⟩, fun q => ?_⟩
    obtain ⟨b1, b2⟩ := h.at (i := z_rn (z_ltr T) p T.1) (by omega) (by omega)
    rw [b1]
    exact ⟨b2, fun _ => ⟨⟨by omega, by omega⟩, _, _, rfl, rfl, k⟩, fun q2 => absurd (z_flt.mpr (r4 (by omega))) q2⟩
  · rintro i v i0 i1 rfl kk
    obtain ⟨b1, b2⟩ := h.at (i := i) (by omega) (by omega)
    refine t_X6_countLetters_2 hP ⟨fun q => absurd q (by omega), fun _ => ?_⟩
    rw [b1]
    exact ⟨b2, fun q => absurd (r3 i i0 i1) (z_flt.mp q), fun _ => ⟨⟨by omega, by omega⟩, kk v rfl⟩⟩
theorem c_countDigits {sh : List z_C} {w : z_Mm} {T : z_T} {p : Int} {K : Int → z_Mm → Prop} (hT : z_isTG sh 0) (h : z_tc w T) (p0 : 0 ≤ p) (p1 : p ≤ T.1) (k : K (z_rn (z_dgt T) p T.1 - p) w) : z_CI mX6_countDigits [z_r 140, z_i p] sh w K := by
  have hP : z_isTap sh 140 := hT.2.2.2.2.2.2.2.1
  obtain ⟨r1, r2, r3, r4⟩ := z_rn_is (g := z_dgt T) p1
  have h0 := h.1
  have h1 := h.2.1
  refine z_CIi (t_X6_countDigits hP ?_)
  refine z_for (n := z_rn (z_dgt T) p T.1) (i0 := p) (fun i v => z_Sem mX6_countDigits (sh.length, 0) 2 [(0, z_r 140), (1, z_i p), (2, z_i i)] [] (sh, v) _) (fun i v => v = w) r1 rfl ?_ ?_
  · rintro v rfl
    refine t_X6_countDigits_2 hP ⟨fun _ => ⟨⟨by omega, by omega⟩, _, _, rfl, rfl, k⟩, fun q => ?_⟩
    obtain ⟨b1, b2⟩ := h.at (i := z_rn (z_dgt T) p T.1) (by omega) (by omega)
    rw [b1]
    exact ⟨b2, fun _ => ⟨⟨by omega, by omega⟩, _, _, rfl, rfl, k⟩, fun q2 => absurd (z_fdt.mpr (r4 (by omega))) q2⟩
  · rintro i v i0 i1 rfl kk
    obtain ⟨b1, b2⟩ := h.at (i := i) (by omega) (by omega)
    refine t_X6_countDigits_2 hP ⟨fun q => absurd q (by omega), fun _ => ?_⟩
    rw [b1]
    exact ⟨b2, fun q => absurd (r3 i i0 i1) (z_fdt.mp q), fun _ => ⟨⟨by omega, by omega⟩, kk v rfl⟩⟩
