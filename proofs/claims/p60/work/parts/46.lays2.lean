/-- m: bounds above that begin at the steps, within a million -/
def z_V0 (S : z_E) (n : Int) (m : Int → Int → Int) : Prop :=
  (∀ y, z_Fe S y → ∀ a b, z_bl n a → z_bl n b → y b - y a ≤ m a b) ∧ (∀ a, z_bl n a → m a a ≤ 0) ∧ (∀ q ∈ S, m q.1 q.2.1 ≤ q.2.2.1) ∧ (∀ a b, z_bl n a → z_bl n b → -1000000 ≤ m a b ∧ m a b ≤ 1000000)
def z_neg (n : Int) (m : Int → Int → Int) : Prop := ∃ a, z_bl n a ∧ m a a < 0
def z_good (n i : Int) (m : Int → Int → Int) : Prop := (∀ j, z_bl n j → j < i → z_U n j m) ∧ (∀ a b, z_bl n a → z_bl n b → -500000 ≤ m a b) ∧ (i = 0 → ∀ a b, z_bl n a → z_bl n b → -999 ≤ m a b) ∧ (1 ≤ i → ∀ a b, z_bl n a → z_bl n b → m a b ≤ 999)
/-- behind a phase: a ring denies, or all is well -/
theorem z_phase2 {S : z_E} {n i : Int} {m m' : Int → Int → Int} (hi : z_bl n i) (hV : z_V0 S n m) (hB0 : ∀ a, z_bl n a → m a 0 ≤ 0 ∧ m 0 a ≤ 999) (hg : z_good n i m) (h0 : ¬ z_neg n m) (hm : ∀ a b, z_bl n a → z_bl n b → m' a b = min (m a b) (max (m a i + m i b) (-1000000))) : z_neg n m' ∨ z_good n (i + 1) m' := by
  by_cases hn : z_neg n m'
  · exact Or.inl hn
  right
  obtain ⟨g1, g2, g3, g4⟩ := hg
  have h00 : z_bl n 0 := ⟨by omega, by have := hi.1; have := hi.2; omega⟩
  have hm2 : ∀ a b, z_bl n a → z_bl n b → m' a b = min (m a b) (m a i + m i b) := by
    intro a b ha hb
    rw [hm a b ha hb]
    have := g2 a i ha hi
    have := g2 i b hi hb
    omega
  have hii : 0 ≤ m i i := by
    by_cases c : 0 ≤ m i i
    · exact c
    · exact absurd ⟨i, hi, by omega⟩ h0
  refine ⟨fun j hj hji => z_phase hi hii hm2 hj ?_, fun a b ha hb => ?_, fun c => absurd c (by have := hi.1; omega), fun _ a b ha hb => ?_⟩
  · by_cases e : j = i
    · exact Or.inl e
    · exact Or.inr (g1 j hj (by omega))
  · rw [hm2 a b ha hb]
    have q1 := g2 a b ha hb
    by_cases c0 : i = 0
    · have q2 := g3 c0 a i ha hi
      have q3 := g3 c0 i b hi hb
      omega
    · have q4 := g4 (by have := hi.1; omega) i a hi ha
      have q5 := g4 (by have := hi.1; omega) b i hb hi
      have q6 : ¬ m' a a < 0 := fun h => hn ⟨a, ha, h⟩
      have q7 : ¬ m' b b < 0 := fun h => hn ⟨b, hb, h⟩
      rw [hm2 a a ha ha] at q6
      rw [hm2 b b hb hb] at q7
      omega
  · rw [hm2 a b ha hb]
    by_cases c0 : i = 0
    · subst c0
      have q1 := (hB0 a ha).1
      have q2 := (hB0 b hb).2
      omega
    · have := g4 (by have := hi.1; omega) a b ha hb
      omega
