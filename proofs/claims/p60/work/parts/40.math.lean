/-! STEPS, FEASIBLE TIMES, DISTANCES BY DUALITY -/
abbrev z_E : Type := List (Int × Int × Int × Int)
/-- times that keep all steps (from, to, length, code) -/
def z_Fe (S : z_E) (x : Int → Int) : Prop := ∀ q ∈ S, x q.2.1 - x q.1 ≤ q.2.2.1
abbrev z_bl (n : Int) (a : Int) : Prop := 0 ≤ a ∧ a < n
def z_wf (S : z_E) (n : Int) : Prop := ∀ q ∈ S, z_bl n q.1 ∧ z_bl n q.2.1
/-- d a b is the greatest difference that feasible times allow -/
def z_IsD (S : z_E) (n : Int) (d : Int → Int → Int) : Prop := ∀ a b, z_bl n a → z_bl n b → (∀ x, z_Fe S x → x b - x a ≤ d a b) ∧ ∃ x, z_Fe S x ∧ x b - x a = d a b
theorem z_IsD_uniq {S : z_E} {n : Int} {d d' : Int → Int → Int} (h : z_IsD S n d) (h' : z_IsD S n d') {a b : Int} (ha : z_bl n a) (hb : z_bl n b) : d a b = d' a b := by
  obtain ⟨h1, x, hx, ex⟩ := h a b ha hb
  obtain ⟨h2, y, hy, ey⟩ := h' a b ha hb
  have := h1 y hy
  have := h2 x hx
  omega
theorem z_IsD_congr {S S' : z_E} {n : Int} {d : Int → Int → Int} (hS : ∀ x, z_Fe S x ↔ z_Fe S' x) (h : z_IsD S n d) : z_IsD S' n d := by
  intro a b ha hb
  obtain ⟨h1, x, hx, ex⟩ := h a b ha hb
  exact ⟨fun y hy => h1 y ((hS y).mpr hy), x, (hS x).mp hx, ex⟩
theorem z_IsD_eqv {S : z_E} {n : Int} {d d' : Int → Int → Int} (h : z_IsD S n d) (he : ∀ a b, z_bl n a → z_bl n b → d' a b = d a b) : z_IsD S n d' := by
  intro a b ha hb
  rw [he a b ha hb]
  exact h a b ha hb
theorem z_Fe_min {S : z_E} {x y : Int → Int} (hx : z_Fe S x) (hy : z_Fe S y) : z_Fe S (fun v => min (x v) (y v)) := by
  intro q hq
  have := hx q hq
  have := hy q hq
  show min (x q.2.1) (y q.2.1) - min (x q.1) (y q.1) ≤ q.2.2.1
  omega
theorem z_Fe_add {S : z_E} {x : Int → Int} (hx : z_Fe S x) (c : Int) : z_Fe S (fun v => x v + c) := by
  intro q hq
  have := hx q hq
  show x q.2.1 + c - (x q.1 + c) ≤ q.2.2.1
  omega
section ZD
variable {S : z_E} {n : Int} {d : Int → Int → Int}
theorem z_D0 (h : z_IsD S n d) {a : Int} (ha : z_bl n a) : d a a = 0 := by
  obtain ⟨-, x, -, ex⟩ := h a a ha ha
  omega
theorem z_Dtri (h : z_IsD S n d) {a b c : Int} (ha : z_bl n a) (hb : z_bl n b) (hc : z_bl n c) : d a b ≤ d a c + d c b := by
  obtain ⟨-, x, hx, ex⟩ := h a b ha hb
  have := (h a c ha hc).1 x hx
  have := (h c b hc hb).1 x hx
  omega
theorem z_Dst (h : z_IsD S n d) (hw : z_wf S n) {q : Int × Int × Int × Int} (hq : q ∈ S) : d q.1 q.2.1 ≤ q.2.2.1 := by
  obtain ⟨-, x, hx, ex⟩ := h q.1 q.2.1 (hw q hq).1 (hw q hq).2
  have := hx q hq
  omega
/-- the distances from one event are feasible times -/
theorem z_DFe (h : z_IsD S n d) (hw : z_wf S n) {a : Int} (ha : z_bl n a) : z_Fe S (fun v => d a v) := by
  intro q hq
  have h1 := z_Dst h hw hq
  have h2 := z_Dtri h ha (hw q hq).2 (hw q hq).1
  show d a q.2.1 - d a q.1 ≤ q.2.2.1
  omega
/-- so are the distances to one event, with the other sign -/
theorem z_DFe' (h : z_IsD S n d) (hw : z_wf S n) {a : Int} (ha : z_bl n a) : z_Fe S (fun v => - d v a) := by
  intro q hq
  have h1 := z_Dst h hw hq
  have h2 := z_Dtri h (hw q hq).1 ha (hw q hq).2
  show - d q.2.1 a - (- d q.1 a) ≤ q.2.2.1
  omega
/-- one more step -/
theorem z_Dadd (h : z_IsD S n d) (hw : z_wf S n) {p q l c : Int} (hp : z_bl n p) (hq : z_bl n q) (hl : 0 ≤ l + d q p) : z_IsD ((p, q, l, c) :: S) n (fun a b => min (d a b) (d a p + l + d q b)) := by
  intro a b ha hb
  refine ⟨fun x hx => ?_, fun v => min (d a v) (d a p + l + d q v), ?_, ?_⟩
  · have hS : z_Fe S x := fun r hr => hx r (List.mem_cons_of_mem _ hr)
    have h1 := (h a b ha hb).1 x hS
    have h2 := (h a p ha hp).1 x hS
    have h3 := (h q b hq hb).1 x hS
    have h4 : x q - x p ≤ l := hx (p, q, l, c) List.mem_cons_self
    show x b - x a ≤ min (d a b) (d a p + l + d q b)
    omega
  · intro r hr
    rcases List.mem_cons.mp hr with rfl | hr
    · have h1 := z_D0 h hq
      show min (d a q) (d a p + l + d q q) - min (d a p) (d a p + l + d q p) ≤ l
      omega
    · have h1 := z_DFe h hw ha r hr
      have h2 := z_DFe h hw hq r hr
      simp only at h1 h2
      show min (d a r.2.1) (d a p + l + d q r.2.1) - min (d a r.1) (d a p + l + d q r.1) ≤ r.2.2.1
      omega
  · have h1 := z_D0 h ha
    have h2 := z_Dtri h hq hp ha
    have h3 := z_Dtri h hq ha hp
    have h4 := z_Dtri h ha ha hp
    have h5 : 0 ≤ d a p + l + d q a := by
      have := z_Dtri h hq hp ha
      omega
    show min (d a b) (d a p + l + d q b) - min (d a a) (d a p + l + d q a) = min (d a b) (d a p + l + d q b)
    omega
theorem z_Fadd (h : z_IsD S n d) (hw : z_wf S n) {p q l c : Int} (hp : z_bl n p) (hq : z_bl n q) : (∃ x, z_Fe ((p, q, l, c) :: S) x) ↔ 0 ≤ l + d q p := by
  constructor
  · rintro ⟨x, hx⟩
    have h1 := (h q p hq hp).1 x (fun r hr => hx r (List.mem_cons_of_mem _ hr))
    have h2 : x q - x p ≤ l := hx (p, q, l, c) List.mem_cons_self
    omega
  · intro hl
    obtain ⟨-, x, hx, -⟩ := z_Dadd (c := c) h hw hp hq hl p p hp hp
    exact ⟨x, hx⟩
/-- a step that could be longer binds nothing -/
theorem z_Floose {S0 : z_E} {p q l : Int} (hp : z_bl n p) (hq : z_bl n q) (h : z_IsD S n d) (hS : ∀ x, z_Fe S x ↔ (z_Fe S0 x ∧ x q - x p ≤ l)) (hl : d p q < l) (x : Int → Int) : z_Fe S0 x ↔ z_Fe S x := by
  constructor
  · intro hx
    refine (hS x).mpr ⟨hx, ?_⟩
    refine Classical.byContradiction fun hc => ?_
    obtain ⟨hle, y, hy, ey⟩ := h p q hp hq
    have hy0 := ((hS y).mp hy).1
    have h1 := z_Fe_min (z_Fe_add hx (- x p)) (z_Fe_add hy0 (1 - y p))
    have h2 : z_Fe S (fun v => min (x v + - x p) (y v + (1 - y p))) := (hS _).mpr ⟨h1, by
      show min (x q + - x p) (y q + (1 - y p)) - min (x p + - x p) (y p + (1 - y p)) ≤ l
      omega⟩
    have h3 := hle _ h2
    omega
  · exact fun hx => ((hS x).mp hx).1
end ZD
/-! FLOYD AND WARSHALL -/
def z_U (n k : Int) (m : Int → Int → Int) : Prop := ∀ a b, z_bl n a → z_bl n b → m a b ≤ m a k + m k b
theorem z_phase {n k : Int} {m m' : Int → Int → Int} (hk : z_bl n k) (h0 : 0 ≤ m k k) (hm : ∀ a b, z_bl n a → z_bl n b → m' a b = min (m a b) (m a k + m k b)) {j : Int} (hj : z_bl n j) (hU : j = k ∨ z_U n j m) : z_U n j m' := by
  intro a b ha hb
  rw [hm a b ha hb, hm a j ha hj, hm j b hj hb]
  rcases hU with rfl | hU
  · omega
  · have h1 := hU a b ha hb
    have h2 := hU k b hk hb
    have h3 := hU a k ha hk
    have h4 := hU k k hk hk
    omega
theorem z_FWend {S : z_E} {n : Int} {m : Int → Int → Int} (hw : z_wf S n) (hL : ∀ x, z_Fe S x → ∀ a b, z_bl n a → z_bl n b → x b - x a ≤ m a b) (h0 : ∀ a, z_bl n a → m a a = 0) (hs : ∀ q ∈ S, m q.1 q.2.1 ≤ q.2.2.1) (hU : ∀ k, z_bl n k → z_U n k m) : z_IsD S n m := by
  intro a b ha hb
  refine ⟨fun x hx => hL x hx a b ha hb, fun v => m a v, fun q hq => ?_, ?_⟩
  · have h1 := hs q hq
    have h2 := hU q.1 (hw q hq).1 a q.2.1 ha (hw q hq).2
    show m a q.2.1 - m a q.1 ≤ q.2.2.1
    omega
  · show m a b - m a a = m a b
    rw [h0 a ha]; omega
/-! WEIGHTS: 64 times a length and one a step -/
def z_sc (S : z_E) : z_E := S.map (fun q => (q.1, q.2.1, 64 * q.2.2.1 + 1, q.2.2.2))
theorem z_sc_wf {S : z_E} {n : Int} (h : z_wf S n) : z_wf (z_sc S) n := by
  intro q hq
  obtain ⟨r, hr, rfl⟩ := List.mem_map.mp hq
  exact h r hr
theorem z_sc_Fe {S : z_E} {x : Int → Int} (h : z_Fe S x) : z_Fe (z_sc S) (fun v => 64 * x v) := by
  intro q hq
  obtain ⟨r, hr, rfl⟩ := List.mem_map.mp hq
  have := h r hr
  show 64 * x r.2.1 - 64 * x r.1 ≤ 64 * r.2.2.1 + 1
  omega
theorem z_sc_iff {S : z_E} {x : Int → Int} : z_Fe (z_sc S) x ↔ ∀ q ∈ S, x q.2.1 - x q.1 ≤ 64 * q.2.2.1 + 1 := by
  constructor
  · intro h q hq
    exact h (q.1, q.2.1, 64 * q.2.2.1 + 1, q.2.2.2) (List.mem_map.mpr ⟨q, hq, rfl⟩)
  · intro h q hq
    obtain ⟨r, hr, rfl⟩ := List.mem_map.mp hq
    exact h r hr
/-- pigeons -/
theorem z_pig : ∀ (N : Nat) (f : Nat → Nat), (∀ i, i ≤ N → f i < N) → ∃ i j, i < j ∧ j ≤ N ∧ f i = f j
  | 0, f, h => absurd (h 0 (Nat.le_refl 0)) (Nat.not_lt_zero _)
  | N + 1, f, h => by
    by_cases hc : ∃ i, i ≤ N ∧ f i = f (N + 1)
    · obtain ⟨i, h1, h2⟩ := hc
      exact ⟨i, N + 1, by omega, Nat.le_refl _, h2⟩
    · have hne : ∀ i, i ≤ N → f i ≠ f (N + 1) := fun i hi e => hc ⟨i, hi, e⟩
      have hlt := h (N + 1) (Nat.le_refl _)
      obtain ⟨i, j, h1, h2, h3⟩ := z_pig N (fun i => if f i < f (N + 1) then f i else f i - 1) (fun i hi => by
        have h4 := h i (by omega)
        have h5 := hne i hi
        show (if f i < f (N + 1) then f i else f i - 1) < N
        split <;> omega)
      refine ⟨i, j, h1, by omega, ?_⟩
      have h4 := hne i (by omega)
      have h5 := hne j h2
      split at h3 <;> split at h3 <;> omega
/-- among nn + 1 numbers from lo on, one keeps all of nn residues clear of 63 -/
theorem z_resid (nn : Nat) (y : Nat → Int) (lo : Int) (hn : nn < 60) : ∃ j : Int, lo ≤ j ∧ j ≤ lo + nn ∧ ∀ v : Nat, v < nn → (y v + j) % 64 ≠ 63 := by
  refine Classical.byContradiction fun hc => ?_
  have h1 : ∀ i : Nat, i ≤ nn → ∃ v : Nat, v < nn ∧ (y v + (lo + i)) % 64 = 63 := by
    intro i hi
    refine Classical.byContradiction fun h => ?_
    exact hc ⟨lo + i, by omega, by omega, fun v hv e => h ⟨v, hv, e⟩⟩
  have h2 : ∃ f : Nat → Nat, ∀ i : Nat, i ≤ nn → f i < nn ∧ (y (f i) + (lo + i)) % 64 = 63 := by
    have : ∀ i : Nat, ∃ v : Nat, i ≤ nn → v < nn ∧ (y v + (lo + i)) % 64 = 63 := by
      intro i
      by_cases hi : i ≤ nn
      · obtain ⟨v, hv⟩ := h1 i hi
        exact ⟨v, fun _ => hv⟩
      · exact ⟨0, fun h => absurd h hi⟩
    exact ⟨fun i => Classical.choose (this i), fun i hi => Classical.choose_spec (this i) hi⟩
  obtain ⟨f, hf⟩ := h2
  obtain ⟨i, j, h3, h4, h5⟩ := z_pig nn f (fun i hi => (hf i hi).1)
  have h6 := (hf i (by omega)).2
  have h7 := (hf j h4).2
  rw [h5] at h6
  omega
theorem z_floor {l u v r : Int} (h : v - u ≤ 64 * l + 1) (hr : u % 64 ≠ 63) : v / 64 - u / 64 ≤ l := by omega
/-- the weights' quotient is the distance, the rest is at most n - 1 -/
theorem z_Wq {S : z_E} {n : Int} {d W : Int → Int → Int} (hw : z_wf S n) (hn : 1 ≤ n ∧ n ≤ 10) (hd : z_IsD S n d) (hW : z_IsD (z_sc S) n W) {a b : Int} (ha : z_bl n a) (hb : z_bl n b) : 64 * d a b ≤ W a b ∧ W a b ≤ 64 * d a b + (n - 1) := by
  obtain ⟨hd1, x, hx, ex⟩ := hd a b ha hb
  obtain ⟨hW1, y, hy, ey⟩ := hW a b ha hb
  have hlow := hW1 _ (z_sc_Fe hx)
  refine ⟨by omega, ?_⟩
  have hy' := z_sc_iff.mp hy
  -- rounding with an offset clear of all events
  have key : ∀ c : Int, (∀ v : Int, z_bl n v → (y v + c) % 64 ≠ 63) → (y b + c) / 64 - (y a + c) / 64 ≤ d a b := by
    intro c hc
    refine hd1 (fun v => (y v + c) / 64) (fun q hq => ?_)
    have h1 := hy' q hq
    exact z_floor (r := 0) (by omega) (hc q.1 (hw q hq).1)
  -- first: at most 63 above
  have h63 : W a b ≤ 64 * d a b + 63 := by
    obtain ⟨j, j1, j2, j3⟩ := z_resid n.toNat (fun v => y (v : Int)) (- y a) (by omega)
    have hc : ∀ v : Int, z_bl n v → (y v + j) % 64 ≠ 63 := fun v hv => by
      have := j3 v.toNat (by have := hv.1; have := hv.2; omega)
      rw [show ((v.toNat : Nat) : Int) = v by have := hv.1; omega] at this
      exact this
    have h1 := key j hc
    omega
  refine Classical.byContradiction fun hgt => ?_
  have hs : n ≤ W a b - 64 * d a b := by omega
  have hab : a ≠ b := by
    rintro rfl
    have := z_D0 hW ha
    have := z_D0 hd ha
    have := hn.1
    omega
  -- second: among the offsets 64 - s .. 62 one is clear of the other events
  obtain ⟨j, j1, j2, j3⟩ := z_resid (n - 2).toNat (fun v => let u : Int := v; let u1 := if u < min a b then u else if u + 1 < max a b then u + 1 else u + 2; y u1 - y a) (64 - (W a b - 64 * d a b)) (by omega)
  have hc : ∀ v : Int, z_bl n v → (y v + (j - y a)) % 64 ≠ 63 := by
    intro v hv
    obtain ⟨ha1, ha2⟩ := ha
    obtain ⟨hb1, hb2⟩ := hb
    obtain ⟨hv1, hv2⟩ := hv
    by_cases hva : v = a
    · subst hva
      have : n ≤ 63 := by omega
      omega
    · by_cases hvb : v = b
      · subst hvb
        omega
      · have h9 : ∃ u : Nat, u < (n - 2).toNat ∧ (if (u : Int) < min a b then (u : Int) else if (u : Int) + 1 < max a b then (u : Int) + 1 else (u : Int) + 2) = v := by
          by_cases c1 : v < min a b
          · exact ⟨v.toNat, by omega, by rw [if_pos (by omega)]; omega⟩
          · by_cases c2 : v < max a b
            · exact ⟨(v - 1).toNat, by omega, by rw [if_neg (by omega), if_pos (by omega)]; omega⟩
            · exact ⟨(v - 2).toNat, by omega, by rw [if_neg (by omega), if_neg (by omega)]; omega⟩
        obtain ⟨u, hu, eu⟩ := h9
        have := j3 u hu
        simp only [eu] at this
        omega
  have h1 := key (j - y a) hc
  omega
/-- there is a first step that keeps the weight -/
theorem z_tight {S : z_E} {n : Int} {W : Int → Int → Int} (hw : z_wf S n) (hW : z_IsD S n W) {a b : Int} (ha : z_bl n a) (hb : z_bl n b) (hab : a ≠ b) : ∃ q ∈ S, q.1 = a ∧ q.2.2.1 + W q.2.1 b = W a b := by
  refine Classical.byContradiction fun hc => ?_
  have h1 : ∀ q ∈ S, q.1 = a → W a b < q.2.2.1 + W q.2.1 b := by
    intro q hq e
    have h2 := z_Dst hW hw hq
    have h3 := z_Dtri hW ha hb (hw q hq).2
    rw [e] at h2
    have h4 : q.2.2.1 + W q.2.1 b ≠ W a b := fun h => hc ⟨q, hq, e, h⟩
    omega
  have hF : z_Fe S (fun v => if v = a then - W a b - 1 else - W v b) := by
    intro q hq
    have h2 := z_DFe' hW hw hb q hq
    have h3 := h1 q hq
    simp only at h2 ⊢
    by_cases c1 : q.1 = a
    · have h6 := h3 c1
      rw [c1] at h2
      rw [if_pos c1]
      split
      · rename_i c2
        rw [c2] at h6
        omega
      · omega
    · rw [if_neg c1]
      split
      · rename_i c2
        rw [c2] at h2
        omega
      · omega
  have h4 := (hW a b ha hb).1 _ hF
  have h5 := z_D0 hW hb
  simp only [if_neg (Ne.symm hab)] at h4
  rw [if_pos trivial] at h4
  omega
