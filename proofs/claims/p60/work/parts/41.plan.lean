/-! A PLAN, as numbers: channel 0 END, 1 events, 2 gaps, 3 one, 4 other, 5 kind, 6 N, 7 on, 8 pin (or -1), 9 name, 10 the log's count, 11 12 13 its parts -/
abbrev z_A : Type := Nat → Int → Int
abbrev z_Mm : Type := Nat → Int → Int
def z_gs (A : z_A) (g : Int) : Int × Int × Int × Int := (if A 5 g = 0 then A 3 g else A 4 g, if A 5 g = 0 then A 4 g else A 3 g, if A 5 g = 0 then A 6 g else - A 6 g, g)
def z_S1 (A : z_A) (lo : Int) : Nat → z_E
  | 0 => []
  | g + 1 => z_S1 A lo g ++ (if A 7 (g : Int) = 0 ∨ (g : Int) = lo then [] else [z_gs A (g : Int)])
def z_S2 (A : z_A) : Nat → z_E
  | 0 => []
  | e + 1 => z_S2 A e ++ [(0, (e : Int) + 1, A 0 0, 100 + ((e : Int) + 1)), ((e : Int) + 1, 0, 0, 200 + ((e : Int) + 1))]
def z_S3 (A : z_A) : Nat → z_E
  | 0 => []
  | e + 1 => z_S3 A e ++ (if A 8 ((e : Int) + 1) = -1 then [] else [(0, (e : Int) + 1, A 8 ((e : Int) + 1), 300 + ((e : Int) + 1)), ((e : Int) + 1, 0, - A 8 ((e : Int) + 1), 400 + ((e : Int) + 1))])
def z_Sx (A : z_A) (lo : Int) : z_E := z_S1 A lo (A 2 0).toNat ++ z_S2 A (A 1 0 - 1).toNat ++ z_S3 A (A 1 0 - 1).toNat
/-- the numbers of gaps, events and pins are as they may be -/
def z_okg (A : z_A) : Prop := (1 ≤ A 0 0 ∧ A 0 0 ≤ 999) ∧ (1 ≤ A 1 0 ∧ A 1 0 ≤ 10) ∧ (0 ≤ A 2 0 ∧ A 2 0 ≤ 24) ∧
  (∀ g : Int, 0 ≤ g → g < A 2 0 → (0 ≤ A 3 g ∧ A 3 g < A 1 0) ∧ (0 ≤ A 4 g ∧ A 4 g < A 1 0) ∧ A 3 g ≠ A 4 g ∧ (0 ≤ A 5 g ∧ A 5 g ≤ 1) ∧ (0 ≤ A 6 g ∧ A 6 g ≤ 999) ∧ (0 ≤ A 7 g ∧ A 7 g ≤ 1)) ∧
  (∀ e : Int, 0 ≤ e → e < A 1 0 → -1 ≤ A 8 e ∧ A 8 e ≤ 999) ∧ A 8 0 = -1
theorem z_S1_len (A : z_A) (lo : Int) : ∀ g : Nat, (z_S1 A lo g).length ≤ g
  | 0 => Nat.le_refl 0
  | g + 1 => by
    have := z_S1_len A lo g
    simp only [z_S1, List.length_append]
    split <;> simp <;> omega
theorem z_S2_len (A : z_A) : ∀ e : Nat, (z_S2 A e).length = 2 * e
  | 0 => rfl
  | e + 1 => by
    have := z_S2_len A e
    simp only [z_S2, List.length_append, List.length_cons, List.length_nil]
    omega
theorem z_S3_len (A : z_A) : ∀ e : Nat, (z_S3 A e).length ≤ 2 * e
  | 0 => Nat.le_refl 0
  | e + 1 => by
    have := z_S3_len A e
    simp only [z_S3, List.length_append]
    split <;> simp <;> omega
theorem z_S1_mem {A : z_A} {lo : Int} {q : Int × Int × Int × Int} : ∀ {g : Nat}, q ∈ z_S1 A lo g ↔ ∃ k : Nat, k < g ∧ ¬ (A 7 (k : Int) = 0 ∨ (k : Int) = lo) ∧ q = z_gs A (k : Int)
  | 0 => by simp [z_S1]
  | g + 1 => by
    rw [z_S1, List.mem_append, z_S1_mem]
    constructor
    · rintro (⟨k, h1, h2⟩ | h)
      · exact ⟨k, by omega, h2⟩
      · split at h
        · cases h
        · rename_i hc
          exact ⟨g, by omega, hc, List.mem_singleton.mp h⟩
    · rintro ⟨k, h1, h2, h3⟩
      by_cases hk : k < g
      · exact Or.inl ⟨k, hk, h2, h3⟩
      · have : k = g := by omega
        subst this
        rw [if_neg h2]
        exact Or.inr (List.mem_singleton.mpr h3)
theorem z_S2_mem {A : z_A} {q : Int × Int × Int × Int} : ∀ {e : Nat}, q ∈ z_S2 A e ↔ ∃ k : Int, 1 ≤ k ∧ k ≤ e ∧ (q = (0, k, A 0 0, 100 + k) ∨ q = (k, 0, 0, 200 + k))
  | 0 => by
    constructor
    · intro h; cases h
    · rintro ⟨k, h1, h2, -⟩
      have : ((0 : Nat) : Int) = 0 := rfl
      omega
  | e + 1 => by
    rw [z_S2, List.mem_append, z_S2_mem]
    constructor
    · rintro (⟨k, h1, h2, h3⟩ | h)
      · exact ⟨k, h1, by omega, h3⟩
      · rcases List.mem_cons.mp h with h | h
        · exact ⟨(e : Int) + 1, by omega, by omega, Or.inl h⟩
        · exact ⟨(e : Int) + 1, by omega, by omega, Or.inr (List.mem_singleton.mp h)⟩
    · rintro ⟨k, h1, h2, h3⟩
      by_cases hk : k ≤ e
      · exact Or.inl ⟨k, h1, hk, h3⟩
      · have : k = (e : Int) + 1 := by omega
        subst this
        right
        rcases h3 with h | h
        · exact List.mem_cons.mpr (Or.inl h)
        · exact List.mem_cons_of_mem _ (List.mem_singleton.mpr h)
theorem z_S3_mem {A : z_A} {q : Int × Int × Int × Int} : ∀ {e : Nat}, q ∈ z_S3 A e ↔ ∃ k : Int, 1 ≤ k ∧ k ≤ e ∧ A 8 k ≠ -1 ∧ (q = (0, k, A 8 k, 300 + k) ∨ q = (k, 0, - A 8 k, 400 + k))
  | 0 => by
    constructor
    · intro h; cases h
    · rintro ⟨k, h1, h2, -⟩
      have : ((0 : Nat) : Int) = 0 := rfl
      omega
  | e + 1 => by
    rw [z_S3, List.mem_append, z_S3_mem]
    constructor
    · rintro (⟨k, h1, h2, h3⟩ | h)
      · exact ⟨k, h1, by omega, h3⟩
      · split at h
        · cases h
        · rename_i hc
          rcases List.mem_cons.mp h with h | h
          · exact ⟨(e : Int) + 1, by omega, by omega, hc, Or.inl h⟩
          · exact ⟨(e : Int) + 1, by omega, by omega, hc, Or.inr (List.mem_singleton.mp h)⟩
    · rintro ⟨k, h1, h2, h4, h3⟩
      by_cases hk : k ≤ e
      · exact Or.inl ⟨k, h1, hk, h4, h3⟩
      · have : k = (e : Int) + 1 := by omega
        subst this
        right
        rw [if_neg h4]
        rcases h3 with h | h
        · exact List.mem_cons.mpr (Or.inl h)
        · exact List.mem_cons_of_mem _ (List.mem_singleton.mpr h)
/-- feasible times, told of gaps, events and pins -/
def z_Fg (A : z_A) (g : Int) (x : Int → Int) : Prop := if A 5 g = 0 then x (A 4 g) - x (A 3 g) ≤ A 6 g else x (A 3 g) - x (A 4 g) ≤ - A 6 g
def z_F (A : z_A) (lo : Int) (x : Int → Int) : Prop :=
  (∀ g : Int, 0 ≤ g → g < A 2 0 → ¬ A 7 g = 0 → g ≠ lo → z_Fg A g x) ∧
  (∀ e : Int, 1 ≤ e → e < A 1 0 → x e - x 0 ≤ A 0 0 ∧ x 0 - x e ≤ 0) ∧
  (∀ e : Int, 1 ≤ e → e < A 1 0 → A 8 e ≠ -1 → x e - x 0 = A 8 e)
theorem z_F_iff {A : z_A} (hA : z_okg A) {lo : Int} {x : Int → Int} : z_Fe (z_Sx A lo) x ↔ z_F A lo x := by
  obtain ⟨h1, h2, h3, -⟩ := hA
  constructor
  · intro h
    refine ⟨fun g g0 g1 g2 g3 => ?_, fun e e0 e1 => ?_, fun e e0 e1 e2 => ?_⟩
    · have := h (z_gs A g) (by
        simp only [z_Sx, List.mem_append]
        refine Or.inl (Or.inl (z_S1_mem.mpr ⟨g.toNat, by omega, ?_, ?_⟩))
        · rw [show ((g.toNat : Nat) : Int) = g by omega]
          rintro (q | q)
          · exact g2 q
          · exact g3 q
        · rw [show ((g.toNat : Nat) : Int) = g by omega])
      unfold z_Fg
      simp only [z_gs] at this
      split
      · rename_i c; simp only [if_pos c] at this; exact this
      · rename_i c; simp only [if_neg c] at this; exact this
    · have q1 := h (0, e, A 0 0, 100 + e) (by
        simp only [z_Sx, List.mem_append]
        exact Or.inl (Or.inr (z_S2_mem.mpr ⟨e, e0, by omega, Or.inl rfl⟩)))
      have q2 := h (e, 0, 0, 200 + e) (by
        simp only [z_Sx, List.mem_append]
        exact Or.inl (Or.inr (z_S2_mem.mpr ⟨e, e0, by omega, Or.inr rfl⟩)))
      exact ⟨q1, q2⟩
    · have q1 : x e - x 0 ≤ A 8 e := h (0, e, A 8 e, 300 + e) (by
        simp only [z_Sx, List.mem_append]
        exact Or.inr (z_S3_mem.mpr ⟨e, e0, by omega, e2, Or.inl rfl⟩))
      have q2 : x 0 - x e ≤ - A 8 e := h (e, 0, - A 8 e, 400 + e) (by
        simp only [z_Sx, List.mem_append]
        exact Or.inr (z_S3_mem.mpr ⟨e, e0, by omega, e2, Or.inr rfl⟩))
      omega
  · rintro ⟨f1, f2, f3⟩ q hq
    simp only [z_Sx, List.mem_append] at hq
    rcases hq with (hq | hq) | hq
    · obtain ⟨k, k1, k2, rfl⟩ := z_S1_mem.mp hq
      have := f1 (k : Int) (by omega) (by omega) (fun c => k2 (Or.inl c)) (fun c => k2 (Or.inr c))
      unfold z_Fg at this
      simp only [z_gs]
      split at this
      · rename_i c; simp only [if_pos c]; exact this
      · rename_i c; simp only [if_neg c]; exact this
    · obtain ⟨k, k1, k2, rfl | rfl⟩ := z_S2_mem.mp hq
      · exact (f2 k k1 (by omega)).1
      · exact (f2 k k1 (by omega)).2
    · obtain ⟨k, k1, k2, k3, rfl | rfl⟩ := z_S3_mem.mp hq
      · have := f3 k k1 (by omega) k3
        show x k - x 0 ≤ A 8 k
        omega
      · have := f3 k k1 (by omega) k3
        show x 0 - x k ≤ - A 8 k
        omega
theorem z_Sx_wf {A : z_A} (hA : z_okg A) (lo : Int) : z_wf (z_Sx A lo) (A 1 0) := by
  obtain ⟨h1, h2, h3, h4, -⟩ := hA
  intro q hq
  simp only [z_Sx, List.mem_append] at hq
  rcases hq with (hq | hq) | hq
  · obtain ⟨k, k1, k2, rfl⟩ := z_S1_mem.mp hq
    obtain ⟨g1, g2, -⟩ := h4 (k : Int) (by omega) (by omega)
    simp only [z_gs]
    constructor
    · constructor <;> split <;> omega
    · constructor <;> split <;> omega
  · obtain ⟨k, k1, k2, rfl | rfl⟩ := z_S2_mem.mp hq
    · exact ⟨⟨Int.le_refl 0, by show (0 : Int) < A 1 0; omega⟩, ⟨by show (0 : Int) ≤ k; omega, by show k < A 1 0; omega⟩⟩
    · exact ⟨⟨by show (0 : Int) ≤ k; omega, by show k < A 1 0; omega⟩, ⟨Int.le_refl 0, by show (0 : Int) < A 1 0; omega⟩⟩
  · obtain ⟨k, k1, k2, k3, rfl | rfl⟩ := z_S3_mem.mp hq
    · exact ⟨⟨Int.le_refl 0, by show (0 : Int) < A 1 0; omega⟩, ⟨by show (0 : Int) ≤ k; omega, by show k < A 1 0; omega⟩⟩
    · exact ⟨⟨by show (0 : Int) ≤ k; omega, by show k < A 1 0; omega⟩, ⟨Int.le_refl 0, by show (0 : Int) < A 1 0; omega⟩⟩
theorem z_Sx_len {A : z_A} (hA : z_okg A) (lo : Int) : (z_Sx A lo).length ≤ 60 := by
  obtain ⟨h1, h2, h3, -⟩ := hA
  have a := z_S1_len A lo (A 2 0).toNat
  have b := z_S2_len A (A 1 0 - 1).toNat
  have c := z_S3_len A (A 1 0 - 1).toNat
  simp only [z_Sx, List.length_append]
  omega
/-- a step's length is small -/
theorem z_Sx_R {A : z_A} (hA : z_okg A) {lo : Int} {q : Int × Int × Int × Int} (hq : q ∈ z_Sx A lo) : -999 ≤ q.2.2.1 ∧ q.2.2.1 ≤ 999 := by
  obtain ⟨h1, h2, h3, h4, h5, h6⟩ := hA
  simp only [z_Sx, List.mem_append] at hq
  rcases hq with (hq | hq) | hq
  · obtain ⟨k, k1, k2, rfl⟩ := z_S1_mem.mp hq
    obtain ⟨-, -, -, -, g5, -⟩ := h4 (k : Int) (by omega) (by omega)
    simp only [z_gs]
    constructor <;> split <;> omega
  · obtain ⟨k, k1, k2, rfl | rfl⟩ := z_S2_mem.mp hq
    · exact ⟨by show -999 ≤ A 0 0; omega, by show A 0 0 ≤ 999; omega⟩
    · exact ⟨by show (-999 : Int) ≤ 0; omega, by show (0 : Int) ≤ 999; omega⟩
  · obtain ⟨k, k1, k2, k3, rfl | rfl⟩ := z_S3_mem.mp hq
    · have := h5 k (by omega) (by omega)
      exact ⟨by show -999 ≤ A 8 k; omega, by show A 8 k ≤ 999; omega⟩
    · have := h5 k (by omega) (by omega)
      exact ⟨by show -999 ≤ - A 8 k; omega, by show - A 8 k ≤ 999; omega⟩
/-- times of any two events lie at most END apart -/
theorem z_F_near {A : z_A} (hA : z_okg A) {lo : Int} {x : Int → Int} (h : z_F A lo x) {a b : Int} (ha : z_bl (A 1 0) a) (hb : z_bl (A 1 0) b) : x b - x a ≤ A 0 0 := by
  obtain ⟨-, f2, -⟩ := h
  obtain ⟨h1, -⟩ := hA
  have q1 : x b - x 0 ≤ A 0 0 ∧ x 0 - x b ≤ 0 := by
    by_cases c : b = 0
    · subst c; omega
    · exact f2 b (by have := hb.1; omega) hb.2
  have q2 : x a - x 0 ≤ A 0 0 ∧ x 0 - x a ≤ 0 := by
    by_cases c : a = 0
    · subst c; omega
    · exact f2 a (by have := ha.1; omega) ha.2
  omega
/-- bears: no ring denies -/
def z_bears (A : z_A) : Prop := ∃ x, z_F A (-1) x
/-! counted loops -/
theorem z_for {n i0 : Int} {w0 : z_Mm} (P : Int → z_Mm → Prop) (R : Int → z_Mm → Prop) (hi : i0 ≤ n) (h0 : R i0 w0) (exit : ∀ w, R n w → P n w)
    (step : ∀ (i : Int) (w : z_Mm), i0 ≤ i → i < n → R i w → (∀ w', R (i + 1) w' → P (i + 1) w') → P i w) : P i0 w0 := by
  have key : ∀ (k : Nat) (i : Int) (w : z_Mm), i0 ≤ i → i ≤ n → (n - i).toNat = k → R i w → P i w := by
    intro k
    induction k with
    | zero =>
      intro i w h1 h2 h3 h4
      have : i = n := by omega
      subst this
      exact exit w h4
    | succ k ih =>
      intro i w h1 h2 h3 h4
      exact step i w h1 (by omega) h4 (fun w' h5 => ih (i + 1) w' (by omega) (by omega) (by omega) h5)
  exact key _ i0 w0 (Int.le_refl _) hi rfl h0
theorem z_forA {α : Type} {n i0 : Int} {w0 : z_Mm} {a0 : α} (P : Int → α → z_Mm → Prop) (R : Int → α → z_Mm → Prop) (hi : i0 ≤ n) (h0 : R i0 a0 w0) (exit : ∀ a w, R n a w → P n a w)
    (step : ∀ (i : Int) (a : α) (w : z_Mm), i0 ≤ i → i < n → R i a w → (∀ a' w', R (i + 1) a' w' → P (i + 1) a' w') → P i a w) : P i0 a0 w0 := by
  have key : ∀ (k : Nat) (i : Int) (a : α) (w : z_Mm), i0 ≤ i → i ≤ n → (n - i).toNat = k → R i a w → P i a w := by
    intro k
    induction k with
    | zero =>
      intro i a w h1 h2 h3 h4
      have : i = n := by omega
      subst this
      exact exit a w h4
    | succ k ih =>
      intro i a w h1 h2 h3 h4
      exact step i a w h1 (by omega) h4 (fun a' w' h5 => ih (i + 1) a' w' (by omega) (by omega) (by omega) h5)
  exact key _ i0 a0 w0 (Int.le_refl _) hi rfl h0
theorem z_CVi {M' : z_M} {vs : List z_V} {sh : List z_C} {w : z_Mm} {K : z_Mm → Prop} (h : z_Sem M' (sh.length, 0) 0 (z_la 0 vs) [] (sh, w) (fun r σ => ∃ (w' : z_Mm), r = none ∧ σ = (sh, w') ∧ K w')) : z_CV M' vs sh w K := h
theorem z_CIi {M' : z_M} {vs : List z_V} {sh : List z_C} {w : z_Mm} {K : Int → z_Mm → Prop} (h : z_Sem M' (sh.length, 0) 0 (z_la 0 vs) [] (sh, w) (fun r σ => ∃ (x : Int) (w' : z_Mm), r = some (z_i x) ∧ σ = (sh, w') ∧ K x w')) : z_CI M' vs sh w K := h
theorem z_Wf {w : z_Mm} {a b : Nat} {i x : Int} (h : b ≠ a) : z_W w a i x b = w b := by
  funext j
  exact z_W_ne (Or.inl h)
