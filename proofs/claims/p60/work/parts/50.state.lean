/-! PLANS WITH NAMES AND LOGS, in the class's cells and in the reference's rows -/
/-- a word of letters (bytes 97 .. 122), five bits each -/
def z_word (f : Int → Int) : Nat → Int
  | 0 => 0
  | k + 1 => 32 * z_word f k + (f (k : Int) - 96)
theorem z_word_congr {f g : Int → Int} : ∀ {k : Nat}, (∀ i : Int, 0 ≤ i → i < k → f i = g i) → z_word f k = z_word g k
  | 0, _ => rfl
  | k + 1, h => by
    rw [z_word, z_word, z_word_congr (k := k) (fun i h0 h1 => h i h0 (by omega)), h (k : Int) (by omega) (by omega)]
/-- the name of an event in the class's cells -/
def z_nm (w : z_Mm) (P : Nat) (e v : Int) : Prop := ∃ c : Nat, 1 ≤ c ∧ c ≤ 5 ∧ w (P + 2) e = (c : Int) ∧ (∀ i : Int, 0 ≤ i → i < c → 97 ≤ w (P + 1) (e * 5 + i) ∧ w (P + 1) (e * 5 + i) ≤ 122) ∧ v = z_word (fun i => w (P + 1) (e * 5 + i)) c
/-- a log in the class's cells -/
def z_lg (w : z_Mm) (a : Nat) (A : z_A) : Prop := (0 ≤ A 10 0 ∧ A 10 0 ≤ 40) ∧ w a 2 = A 10 0 ∧ (0 ≤ w a 1 ∧ w a 1 < 40) ∧
  ∀ i : Int, 0 ≤ i → i < A 10 0 → w (a + 1) ((w a 1 + i) % 40 * 3) = A 11 i ∧ w (a + 1) ((w a 1 + i) % 40 * 3 + 1) = A 12 i ∧ w (a + 1) ((w a 1 + i) % 40 * 3 + 2) = A 13 i
/-- a plan in the class's cells -/
def z_pr (w : z_Mm) (P : Nat) (A : z_A) : Prop := z_pg w P A ∧ (∀ e : Int, 0 ≤ e → e < A 1 0 → z_nm w P e (A 9 e)) ∧ z_lg w (P + 9) A ∧ ∀ g : Int, 0 ≤ g → g < 24 → 0 ≤ w (P + 8) g ∧ w (P + 8) g ≤ 1
/-- a plan in a row of the reference -/
def z_mr (f : Int → Int) (A : z_A) : Prop := z_mg f A ∧ (∀ e : Int, 0 ≤ e → e < A 1 0 → f (3 + e) = A 9 e) ∧ (0 ≤ A 10 0 ∧ A 10 0 ≤ 40) ∧ f 143 = A 10 0 ∧
  ∀ i : Int, 0 ≤ i → i < A 10 0 → f (144 + 3 * i + 0) = A 11 i ∧ f (144 + 3 * i + 1) = A 12 i ∧ f (144 + 3 * i + 2) = A 13 i
/-- a word that is a name -/
def z_vw (v : Int) : Prop := ∃ (c : Nat) (f : Int → Int), 1 ≤ c ∧ c ≤ 5 ∧ (∀ i : Int, 0 ≤ i → i < c → 97 ≤ f i ∧ f i ≤ 122) ∧ v = z_word f c
/-- a plan as it may be -/
def z_ok (A : z_A) : Prop := z_okg A ∧ z_bears A ∧ (∀ e : Int, 0 ≤ e → e < A 1 0 → z_vw (A 9 e)) ∧ A 9 0 = 20579924 ∧ (0 ≤ A 10 0 ∧ A 10 0 ≤ 40)
/-- cell for cell -/
def z_s11 (w' : z_Mm) (P' : Nat) (w : z_Mm) (P : Nat) : Prop :=
  (∀ j : Int, 0 ≤ j → j < 50 → w' (P' + 1) j = w (P + 1) j) ∧ (∀ j : Int, 0 ≤ j → j < 10 → w' (P' + 2) j = w (P + 2) j ∧ w' (P' + 3) j = w (P + 3) j) ∧
  (∀ j : Int, 0 ≤ j → j < 24 → w' (P' + 4) j = w (P + 4) j ∧ w' (P' + 5) j = w (P + 5) j ∧ w' (P' + 6) j = w (P + 6) j ∧ w' (P' + 7) j = w (P + 7) j ∧ w' (P' + 8) j = w (P + 8) j) ∧
  (w' P' 9 = w P 9 ∧ w' P' 10 = w P 10 ∧ w' P' 11 = w P 11) ∧ (w' (P' + 9) 1 = w (P + 9) 1 ∧ w' (P' + 9) 2 = w (P + 9) 2) ∧ ∀ j : Int, 0 ≤ j → j < 120 → w' (P' + 10) j = w (P + 10) j
theorem z_pr.s11 {w w' : z_Mm} {P P' : Nat} {A : z_A} (h : z_pr w P A) (hA : z_okg A) (hs : z_s11 w' P' w P) : z_pr w' P' A := by
  obtain ⟨hE, hn, hg, -⟩ := hA
  obtain ⟨⟨h1, h2, h3, h4, h5⟩, h6, ⟨h7, h8, h9, h10⟩, h11⟩ := h
  obtain ⟨s1, s2, s3, ⟨s4, s5, s6⟩, ⟨s7, s8⟩, s9⟩ := hs
  refine ⟨⟨by rw [s4]; exact h1, by rw [s5]; exact h2, by rw [s6]; exact h3, fun g g0 g1 => ?_, fun e e0 e1 => ?_⟩, fun e e0 e1 => ?_, ⟨h7, by rw [s8]; exact h8, by rw [s7]; exact h9, fun i i0 i1 => ?_⟩, fun g g0 g1 => ?_⟩
  · obtain ⟨t1, t2, t3, t4, t5⟩ := s3 g g0 (by omega)
    rw [t1, t2, t3, t4, t5]
    exact h4 g g0 g1
  · rw [(s2 e e0 (by omega)).2]
    exact h5 e e0 e1
  · obtain ⟨c, c1, c2, c3, c4, c5⟩ := h6 e e0 e1
    refine ⟨c, c1, c2, by rw [(s2 e e0 (by omega)).1]; exact c3, fun i i0 i1 => ?_, ?_⟩
    · rw [s1 (e * 5 + i) (by omega) (by omega)]
      exact c4 i i0 i1
    · rw [c5]
      exact z_word_congr (fun i i0 i1 => (s1 (e * 5 + i) (by omega) (by omega)).symm)
  · rw [s7, show P' + 9 + 1 = P' + 10 from rfl, s9 _ (by omega) (by omega), s9 _ (by omega) (by omega), s9 _ (by omega) (by omega)]
    exact h10 i i0 i1
  · rw [(s3 g g0 g1).2.2.2.2]
    exact h11 g g0 g1
theorem z_s11.of {w w' : z_Mm} {P : Nat} (h : ∀ a : Nat, P ≤ a → a ≤ P + 10 → w' a = w a) : z_s11 w' P w P := by
  unfold z_s11
  rw [h P (by omega) (by omega), h (P + 1) (by omega) (by omega), h (P + 2) (by omega) (by omega), h (P + 3) (by omega) (by omega), h (P + 4) (by omega) (by omega), h (P + 5) (by omega) (by omega), h (P + 6) (by omega) (by omega), h (P + 7) (by omega) (by omega), h (P + 8) (by omega) (by omega), h (P + 9) (by omega) (by omega), h (P + 10) (by omega) (by omega)]
  exact ⟨fun _ _ _ => rfl, fun _ _ _ => ⟨rfl, rfl⟩, fun _ _ _ => ⟨rfl, rfl, rfl, rfl, rfl⟩, ⟨rfl, rfl, rfl⟩, ⟨rfl, rfl⟩, fun _ _ _ => rfl⟩
theorem z_pr.fr {w w' : z_Mm} {P : Nat} {A : z_A} (h : z_pr w P A) (hA : z_okg A) (hf : ∀ a : Nat, P ≤ a → a ≤ P + 10 → w' a = w a) : z_pr w' P A := h.s11 hA (z_s11.of hf)
/-- only a plan's cells are touched -/
def z_frP (w w' : z_Mm) (P : Nat) : Prop := ∀ a : Nat, (a < P ∨ P + 10 < a) → w' a = w a
theorem z_frP.trans {w w1 w2 : z_Mm} {P : Nat} (h1 : z_frP w w1 P) (h2 : z_frP w1 w2 P) : z_frP w w2 P := fun a h => (h2 a h).trans (h1 a h)
theorem z_frPW {w : z_Mm} {P b : Nat} {i x : Int} (h : P ≤ b ∧ b ≤ P + 10) : z_frP w (z_W w b i x) P := fun a ha => z_Wf (by omega)
theorem z_CPf {w : z_Mm} {a0 a b : Nat} {sp dp n : Int} (h : b ≠ a) : z_CP w a0 sp a dp n b = w b := by
  funext j
  exact z_CP_ne (Or.inl h)
theorem z_frPC {w : z_Mm} {P b a0 : Nat} {sp dp n : Int} (h : P ≤ b ∧ b ≤ P + 10) : z_frP w (z_CP w a0 sp b dp n) P := fun a ha => z_CPf (by omega)
theorem z_CP0 {w : z_Mm} {a0 a : Nat} {n j : Int} (h0 : 0 ≤ j) (h1 : j < n) : z_CP w a0 0 a 0 n a j = w a0 j := by
  rw [z_CP_in ⟨h0, by omega⟩]
  congr 1
  omega
/-- the plans are apart -/
def z_apP (P P' : Nat) : Prop := P + 10 < P' ∨ P' + 10 < P
theorem c_logCopy {sh : List z_C} {w : z_Mm} {a b : Nat} {K : z_Mm → Prop} (ha : z_isLog sh a) (hb : z_isLog sh b) (hap : a + 1 < b ∨ b + 1 < a)
    (k : ∀ w', (w' a 1 = w b 1 ∧ w' a 2 = w b 2 ∧ ∀ j : Int, 0 ≤ j → j < 120 → w' (a + 1) j = w (b + 1) j) → (∀ c : Nat, c ≠ a → c ≠ a + 1 → w' c = w c) → K w') : z_CV mX1_copyFrom [z_r a, z_r b] sh w K := by
  refine z_CVi (t_X1_copyFrom ha hb ?_)
  intro w1 e1 w2 e2 w3 e3
  refine ⟨w3, rfl, rfl, k w3 ⟨?_, ?_, fun j j0 j1 => ?_⟩ (fun c h1 h2 => ?_)⟩
  · rw [e3, z_W_ne (Or.inr (by decide)), e2, z_W_same, e1, z_CP_ne (Or.inl (by omega))]
  · rw [e3, z_W_same, e2, z_W_ne (Or.inl (by omega)), e1, z_CP_ne (Or.inl (by omega))]
  · rw [e3, z_W_ne (Or.inl (by omega)), e2, z_W_ne (Or.inl (by omega)), e1, z_CP0 j0 j1]
  · rw [e3, z_Wf (by omega), e2, z_Wf (by omega), e1, z_CPf (by omega)]
theorem c_planCopy {sh : List z_C} {w : z_Mm} {P P' : Nat} {K : z_Mm → Prop} (h0 : z_isPla sh P') (h1 : z_isPla sh P) (hap : z_apP P P') (hon : ∀ g : Int, 0 ≤ g → g < 24 → 0 ≤ w (P + 8) g ∧ w (P + 8) g ≤ 1)
    (k : ∀ w', z_s11 w' P' w P → z_frP w w' P' → K w') : z_CV mX3_copyFrom [z_r P', z_r P] sh w K := by
  unfold z_apP at hap
  have hL0 : z_isLog sh (P' + 9) := h0.2.2.2.2.2.2.2.2.2
  have hL1 : z_isLog sh (P + 9) := h1.2.2.2.2.2.2.2.2.2
  refine z_CVi (t_X3_copyFrom h0 h1 ?_)
  intro w1 e1 w2 e2 w3 e3 w4 e4 w5 e5 w6 e6 w7 e7
  have fr7 : z_frP w w7 P' := by
    rw [e7, e6, e5, e4, e3, e2, e1]
    exact ((((((z_frPC (by omega)).trans (z_frPC (by omega))).trans (z_frPC (by omega))).trans (z_frPC (by omega))).trans (z_frPC (by omega))).trans (z_frPC (by omega))).trans (z_frPC (by omega))
  have q1 : ∀ j : Int, 0 ≤ j → j < 50 → w7 (P' + 1) j = w (P + 1) j := fun j j0 j1 => by
    rw [e7, z_CPf (by omega), e6, z_CPf (by omega), e5, z_CPf (by omega), e4, z_CPf (by omega), e3, z_CPf (by omega), e2, z_CPf (by omega), e1, z_CP0 j0 j1]
  have q2 : ∀ j : Int, 0 ≤ j → j < 10 → w7 (P' + 2) j = w (P + 2) j := fun j j0 j1 => by
    rw [e7, z_CPf (by omega), e6, z_CPf (by omega), e5, z_CPf (by omega), e4, z_CPf (by omega), e3, z_CPf (by omega), e2, z_CP0 j0 j1, e1, z_CPf (by omega)]
  have q3 : ∀ j : Int, 0 ≤ j → j < 10 → w7 (P' + 3) j = w (P + 3) j := fun j j0 j1 => by
    rw [e7, z_CPf (by omega), e6, z_CPf (by omega), e5, z_CPf (by omega), e4, z_CPf (by omega), e3, z_CP0 j0 j1, e2, z_CPf (by omega), e1, z_CPf (by omega)]
  have q4 : ∀ j : Int, 0 ≤ j → j < 24 → w7 (P' + 4) j = w (P + 4) j := fun j j0 j1 => by
    rw [e7, z_CPf (by omega), e6, z_CPf (by omega), e5, z_CPf (by omega), e4, z_CP0 j0 j1, e3, z_CPf (by omega), e2, z_CPf (by omega), e1, z_CPf (by omega)]
  have q5 : ∀ j : Int, 0 ≤ j → j < 24 → w7 (P' + 5) j = w (P + 5) j := fun j j0 j1 => by
    rw [e7, z_CPf (by omega), e6, z_CPf (by omega), e5, z_CP0 j0 j1, e4, z_CPf (by omega), e3, z_CPf (by omega), e2, z_CPf (by omega), e1, z_CPf (by omega)]
  have q6 : ∀ j : Int, 0 ≤ j → j < 24 → w7 (P' + 6) j = w (P + 6) j := fun j j0 j1 => by
    rw [e7, z_CPf (by omega), e6, z_CP0 j0 j1, e5, z_CPf (by omega), e4, z_CPf (by omega), e3, z_CPf (by omega), e2, z_CPf (by omega), e1, z_CPf (by omega)]
  have q7 : ∀ j : Int, 0 ≤ j → j < 24 → w7 (P' + 7) j = w (P + 7) j := fun j j0 j1 => by
    rw [e7, z_CP0 j0 j1, e6, z_CPf (by omega), e5, z_CPf (by omega), e4, z_CPf (by omega), e3, z_CPf (by omega), e2, z_CPf (by omega), e1, z_CPf (by omega)]
  refine z_for (n := 24) (i0 := 0) (fun i v => z_Sem mX3_copyFrom (sh.length, 0) 110 [(0, z_r P'), (1, z_r P), (2, z_i i)] [] (sh, v) _)
    (fun i v => (∀ c : Nat, c ≠ P' + 8 → v c = w7 c) ∧ ∀ j : Int, 0 ≤ j → j < i → v (P' + 8) j = w (P + 8) j) (by omega) ⟨fun _ _ => rfl, fun j j0 j1 => absurd j1 (by omega)⟩ ?_ ?_
  · rintro v ⟨vf, v8⟩
    refine t_X3_copyFrom_110 h0 h1 ⟨fun _ => ?_, fun c => absurd (Int.le_refl _) c⟩
    refine c_logCopy hL0 hL1 (by omega) (fun u hu uf => ?_)
    intro u3 g3 u4 g4 u5 g5
    have hs : ∀ c : Nat, P ≤ c → c ≤ P + 10 → u c = w c := fun c c0 c1 => by rw [uf c (by omega) (by omega), vf c (by omega), fr7 c (by omega)]
    have hk : ∀ c : Nat, c ≠ P' → u5 c = u c := fun c hc => by rw [g5, z_Wf hc, g4, z_Wf hc, g3, z_Wf hc]
    refine ⟨u5, rfl, rfl, k u5 ⟨fun j j0 j1 => ?_, fun j j0 j1 => ⟨?_, ?_⟩, fun j j0 j1 => ⟨?_, ?_, ?_, ?_, ?_⟩, ⟨?_, ?_, ?_⟩, ⟨?_, ?_⟩, fun j j0 j1 => ?_⟩ (fun c hc => ?_)⟩
    · rw [hk _ (by omega), uf _ (by omega) (by omega), vf _ (by omega)]; exact q1 j j0 j1
    · rw [hk _ (by omega), uf _ (by omega) (by omega), vf _ (by omega)]; exact q2 j j0 j1
    · rw [hk _ (by omega), uf _ (by omega) (by omega), vf _ (by omega)]; exact q3 j j0 j1
    · rw [hk _ (by omega), uf _ (by omega) (by omega), vf _ (by omega)]; exact q4 j j0 j1
    · rw [hk _ (by omega), uf _ (by omega) (by omega), vf _ (by omega)]; exact q5 j j0 j1
    · rw [hk _ (by omega), uf _ (by omega) (by omega), vf _ (by omega)]; exact q6 j j0 j1
    · rw [hk _ (by omega), uf _ (by omega) (by omega), vf _ (by omega)]; exact q7 j j0 j1
    · rw [hk _ (by omega), uf _ (by omega) (by omega)]; exact v8 j j0 j1
    · rw [g5, z_W_ne (Or.inr (by decide)), g4, z_W_ne (Or.inr (by decide)), g3, z_W_same, hs P (by omega) (by omega)]
    · rw [g5, z_W_ne (Or.inr (by decide)), g4, z_W_same, g3, z_W_ne (Or.inl (by omega)), hs P (by omega) (by omega)]
    · rw [g5, z_W_same, g4, z_W_ne (Or.inl (by omega)), g3, z_W_ne (Or.inl (by omega)), hs P (by omega) (by omega)]
    · rw [hk _ (by omega), hu.1, vf _ (by omega), fr7 _ (by omega)]
    · rw [hk _ (by omega), hu.2.1, vf _ (by omega), fr7 _ (by omega)]
    · rw [hk _ (by omega), show P' + 10 = P' + 9 + 1 from rfl, hu.2.2 j j0 j1, vf _ (by omega), fr7 _ (by omega)]
    · rw [hk c (by omega), uf c (by omega) (by omega), vf c (by omega), fr7 c hc]
  · rintro i v i0 i1 ⟨vf, v8⟩ kk
    have hv : v (P + 8) = w (P + 8) := by rw [vf _ (by omega), fr7 _ (by omega)]
    have ho := hon i i0 i1
    refine t_X3_copyFrom_110 h0 h1 ⟨fun c => absurd c (by omega), fun _ => ⟨⟨by omega, by omega⟩, ⟨by omega, by omega⟩, by rw [hv]; exact ho, fun w7' e7' => ⟨⟨by omega, by omega⟩, kk w7' ⟨fun c hc => by rw [e7', z_Wf hc, vf c hc], fun j j0 j1 => ?_⟩⟩⟩⟩
    rw [e7', hv]
    by_cases e : j = i
    · subst e; rw [z_W_same]
    · rw [z_W_ne (Or.inr e)]; exact v8 j j0 (by omega)
