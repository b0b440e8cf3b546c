/-! A PLAN WITHOUT ONE GAP -/
/-- the least bound between two events -/
noncomputable def z_dd (A : z_A) (lo a b : Int) : Int := z_Dd (z_Sx A lo) (A 1 0) a b
/-- a gap is tight -/
def z_tg (A : z_A) (g : Int) : Prop := ¬ A 7 g = 0 ∧ (z_gs A g).2.2.1 = z_dd A (-1) (z_gs A g).1 (z_gs A g).2.1
/-- a gap is needed -/
def z_need (A : z_A) (g : Int) : Prop := ¬ A 7 g = 0 ∧ ∃ x, z_F A g x ∧ ¬ z_Fg A g x
theorem z_Fg_l {A : z_A} {g : Int} {x : Int → Int} : z_Fg A g x ↔ x (z_gs A g).2.1 - x (z_gs A g).1 ≤ (z_gs A g).2.2.1 := by
  unfold z_Fg z_gs
  split <;> exact Iff.rfl
theorem z_gs_bl {A : z_A} {g : Int} (hA : z_okg A) (g0 : 0 ≤ g) (g1 : g < A 2 0) : z_bl (A 1 0) (z_gs A g).1 ∧ z_bl (A 1 0) (z_gs A g).2.1 ∧ (z_gs A g).1 ≠ (z_gs A g).2.1 ∧ (-999 ≤ (z_gs A g).2.2.1 ∧ (z_gs A g).2.2.1 ≤ 999) := by
  obtain ⟨r1, r2, r3, r4, r5, r6⟩ := hA.2.2.2.1 g g0 g1
  unfold z_gs
  show z_bl (A 1 0) (if A 5 g = 0 then A 3 g else A 4 g) ∧ z_bl (A 1 0) (if A 5 g = 0 then A 4 g else A 3 g) ∧ (if A 5 g = 0 then A 3 g else A 4 g) ≠ (if A 5 g = 0 then A 4 g else A 3 g) ∧ (-999 ≤ (if A 5 g = 0 then A 6 g else - A 6 g) ∧ (if A 5 g = 0 then A 6 g else - A 6 g) ≤ 999)
  split
  · exact ⟨r1, r2, r3, by omega, by omega⟩
  · exact ⟨r2, r1, Ne.symm r3, by omega, by omega⟩
theorem z_isd {A : z_A} (hA : z_okg A) (hb : z_bears A) (lo : Int) : z_IsD (z_Sx A lo) (A 1 0) (z_dd A lo) := z_sv_D (z_sv_A hA hb lo)
theorem z_loose {A : z_A} {g : Int} (hA : z_okg A) (hb : z_bears A) (g0 : 0 ≤ g) (g1 : g < A 2 0) (ht : ¬ z_tg A g) (x : Int → Int) : z_F A g x ↔ z_F A (-1) x := by
  obtain ⟨b1, b2, -, -⟩ := z_gs_bl hA g0 g1
  by_cases h7 : A 7 g = 0
  · rw [z_F_g g0 g1]
    exact ⟨fun h => ⟨h, fun c => absurd h7 c⟩, fun h => h.1⟩
  · have hd := z_isd hA hb (-1)
    have hS : ∀ x, z_Fe (z_Sx A (-1)) x ↔ (z_Fe (z_Sx A g) x ∧ x (z_gs A g).2.1 - x (z_gs A g).1 ≤ (z_gs A g).2.2.1) := fun x => by
      rw [z_F_iff hA, z_F_iff hA, z_F_g g0 g1, z_Fg_l]
      exact ⟨fun h => ⟨h.1, h.2 h7⟩, fun h => ⟨h.1, fun _ => h.2⟩⟩
    have hle : z_dd A (-1) (z_gs A g).1 (z_gs A g).2.1 ≤ (z_gs A g).2.2.1 := by
      obtain ⟨y, hy, hy2⟩ := (hd _ _ b1 b2).2
      rw [← hy2]
      exact ((hS y).mp hy).2
    have hne : ¬ (z_gs A g).2.2.1 = z_dd A (-1) (z_gs A g).1 (z_gs A g).2.1 := fun c => ht ⟨h7, c⟩
    have := z_Floose b1 b2 hd hS (by omega) x
    rw [z_F_iff hA, z_F_iff hA] at this
    exact this
theorem z_need_tg {A : z_A} {g : Int} (hA : z_okg A) (hb : z_bears A) (g0 : 0 ≤ g) (g1 : g < A 2 0) (h : z_need A g) : z_tg A g := by
  refine Classical.byContradiction fun ht => ?_
  obtain ⟨h7, x, hx, hn⟩ := h
  exact hn (((z_F_g g0 g1).mp ((z_loose hA hb g0 g1 ht x).mp hx)).2 h7)
theorem z_need_iff {A : z_A} {g : Int} {S : z_E} {d : Int → Int → Int} (hA : z_okg A) (g0 : 0 ≤ g) (g1 : g < A 2 0) (hS : ∀ x, z_Fe S x ↔ z_F A g x) (hd : z_IsD S (A 1 0) d) (h7 : ¬ A 7 g = 0) : z_need A g ↔ (z_gs A g).2.2.1 < d (z_gs A g).1 (z_gs A g).2.1 := by
  obtain ⟨b1, b2, -, -⟩ := z_gs_bl hA g0 g1
  obtain ⟨h1, y, hy, hy2⟩ := hd _ _ b1 b2
  constructor
  · rintro ⟨-, x, hx, hn⟩
    rw [z_Fg_l] at hn
    have := h1 x ((hS x).mpr hx)
    omega
  · intro h
    refine ⟨h7, y, (hS y).mp hy, ?_⟩
    rw [z_Fg_l]
    omega
/-- the class's net has the bounds of a plan -/
def z_nb (w : z_Mm) (A : z_A) : Prop := ∃ S, z_sv S (A 1 0) ∧ (∀ x, z_Fe S x ↔ z_F A (-1) x) ∧ z_bd w 12 (A 1 0) S
theorem z_net.nb {w : z_Mm} {A : z_A} (hn : z_net w 12 A (-1)) (hA : z_okg A) (hb : z_bears A) : z_nb w A := ⟨_, z_sv_A hA hb (-1), fun _ => z_F_iff hA, hn.1⟩
theorem z_nb.fr {w w' : z_Mm} {A : z_A} (hn : z_nb w A) (h1 : w' 12 = w 12) (h2 : w' 17 = w 17) : z_nb w' A := by
  obtain ⟨S, h3, h4, h5⟩ := hn
  exact ⟨S, h3, h4, h5.fr h1 h2⟩
theorem z_dd_S {A : z_A} {S : z_E} {lo : Int} (hA : z_okg A) (hb : z_bears A) (hv : z_sv S (A 1 0)) (hS : ∀ x, z_Fe S x ↔ z_F A lo x) {a b : Int} (ha : z_bl (A 1 0) a) (hb' : z_bl (A 1 0) b) : z_Dd S (A 1 0) a b = z_dd A lo a b :=
  z_IsD_uniq (z_IsD_congr (S' := z_Sx A lo) (fun x => by rw [hS, z_F_iff hA]) (z_sv_D hv)) (z_isd hA hb lo) ha hb'
section
variable {w : z_Mm} {A : z_A} {g : Int}
theorem z_cbe (hp : z_pg w 1 A) (g0 : 0 ≤ g) (g1 : g < A 2 0) : f_X8_beginOf w g = (z_gs A g).1 ∧ f_X8_finishOf w g = (z_gs A g).2.1 ∧ f_X8_lengthOf w g = (z_gs A g).2.2.1 := by
  obtain ⟨v4, v5, v6, v7, v8⟩ := hp.2.2.2.1 g g0 g1
  unfold f_X8_beginOf f_X8_finishOf f_X8_lengthOf f_X8_stepBegin f_X8_stepFinish f_X8_stepLength z_gs
  rw [show w 5 g = A 3 g from v4, show w 6 g = A 4 g from v5, show w 7 g = A 5 g from v6, show w 8 g = A 6 g from v7]
  exact ⟨rfl, rfl, rfl⟩
theorem z_scbe (hA : z_okg A) (hp : z_pg w 1 A) (g0 : 0 ≤ g) (g1 : g < A 2 0) : s_X8_beginOf w g ∧ s_X8_finishOf w g ∧ s_X8_lengthOf w g := by
  have r2 := hA.2.2.1
  have r6 := (hA.2.2.2.1 g g0 g1).2.2.2.2.1
  obtain ⟨v4, v5, v6, v7, v8⟩ := hp.2.2.2.1 g g0 g1
  have e8 : w 8 g = A 6 g := v7
  refine ⟨⟨⟨g0, by omega⟩, ⟨g0, by omega⟩, ⟨g0, by omega⟩, True.intro⟩, ⟨⟨g0, by omega⟩, ⟨g0, by omega⟩, ⟨g0, by omega⟩, True.intro⟩, ⟨g0, by omega⟩, ⟨g0, by omega⟩, ⟨fun _ => ⟨⟨by omega, by omega⟩, True.intro⟩, True.intro⟩, True.intro⟩
theorem z_cbo (hA : z_okg A) (hb : z_bears A) (hp : z_pg w 1 A) (hn : z_nb w A) (g0 : 0 ≤ g) (g1 : g < A 2 0) : f_X8_boundOf w g = z_dd A (-1) (z_gs A g).1 (z_gs A g).2.1 := by
  obtain ⟨b1, b2, -, -⟩ := z_gs_bl hA g0 g1
  unfold f_X8_boundOf
  rw [(z_cbe hp g0 g1).1, (z_cbe hp g0 g1).2.1]
  obtain ⟨S, hv, hS, hd⟩ := hn
  rw [z_fbt hv hd b1 b2, z_dd_S hA hb hv hS b1 b2]
theorem z_scbo (hA : z_okg A) (hb : z_bears A) (hp : z_pg w 1 A) (hn : z_nb w A) (g0 : 0 ≤ g) (g1 : g < A 2 0) : s_X8_boundOf w g := by
  obtain ⟨b1, b2, -, -⟩ := z_gs_bl hA g0 g1
  unfold s_X8_boundOf
  rw [(z_cbe hp g0 g1).1, (z_cbe hp g0 g1).2.1]
  obtain ⟨S, hv, hS, hd⟩ := hn
  exact ⟨(z_scbe hA hp g0 g1).1, (z_scbe hA hp g0 g1).2.1, z_sbt hv hd b1 b2, True.intro⟩
theorem z_cti (hA : z_okg A) (hb : z_bears A) (hp : z_pg w 1 A) (hn : z_nb w A) (g0 : 0 ≤ g) (g1 : g < A 2 0) : f_X8_isTight w g = 0 ↔ ¬ z_tg A g := by
  unfold f_X8_isTight z_tg
  rw [z_cbo hA hb hp hn g0 g1, (z_cbe hp g0 g1).2.2, show w 9 g = A 7 g from (hp.2.2.2.1 g g0 g1).2.2.2.2]
  split
  · rename_i h; simp [h]
  · rename_i h
    split
    · rename_i h2; simp [h, h2]
    · rename_i h2; simp [h, h2]
theorem z_scti (hA : z_okg A) (hb : z_bears A) (hp : z_pg w 1 A) (hn : z_nb w A) (g0 : 0 ≤ g) (g1 : g < A 2 0) : s_X8_isTight w g := by
  have r2 := hA.2.2.1
  exact ⟨⟨g0, by omega⟩, fun _ => ⟨(z_scbe hA hp g0 g1).2.2, z_scbo hA hb hp hn g0 g1, True.intro⟩, True.intro⟩
end
theorem c_copyB {sh : List z_C} {w : z_Mm} {n : Int} {S : z_E} {K : z_Mm → Prop} (hT : z_isTG sh 0) (hn : z_bd w 12 n S) (hn10 : n ≤ 10)
    (k : ∀ w', z_bd w' 18 n S → (∀ a : Nat, (a < 18 ∨ 23 < a) → w' a = w a) → K w') : z_CV mX2_copyBounds [z_r 18, z_r 12] sh w K := by
  refine z_CVi (t_X2_copyBounds hT.2.2.2.1 hT.2.2.1 ?_)
  intro w1 e1 w2 e2 w3 e3
  have h12 : w1 12 = w 12 := by rw [e1, z_CPf (by omega)]
  refine ⟨w3, rfl, rfl, k w3 ⟨?_, ?_⟩ (fun a ha => by rw [e3, z_Wf (by omega), e2, z_Wf (by omega), e1, z_CPf (by omega)])⟩
  · rw [e3, z_W_ne (Or.inr (by decide)), e2, z_W_same, h12]; exact hn.1
  · refine z_IsD_eqv hn.2 (fun a b ha hb => ?_)
    unfold z_mx
    obtain ⟨a0, a1⟩ := ha
    obtain ⟨b0, b1⟩ := hb
    rw [e3, z_Wf (by omega), e2, z_Wf (by omega), e1]
    exact z_CP0 (by omega) (by omega)
/-- the class tries the plan without a gap -/
theorem c_try {sh : List z_C} {w : z_Mm} {A : z_A} {g : Int} {K : z_Mm → Prop} (hT : z_isTG sh 0) (hA : z_okg A) (hb : z_bears A) (hp : z_pg w 1 A) (hn : z_nb w A) (g0 : 0 ≤ g) (g1 : g < A 2 0)
    (k : ∀ w' S, z_sv S (A 1 0) → z_bd w' 18 (A 1 0) S → (∀ x, z_Fe S x ↔ z_F A g x) → (∀ a : Nat, (a < 18 ∨ 23 < a) → w' a = w a) → K w') : z_CV mX8_tryWithout [z_r 0, z_i g] sh w K := by
  refine z_CVi (t_X8_tryWithout hT ⟨z_scti hA hb hp hn g0 g1, fun c => ?_, fun c => ?_⟩)
  · rw [z_cti hA hb hp hn g0 g1] at c
    obtain ⟨S, hv, hS, hd⟩ := hn
    refine c_copyB hT hd hA.2.1.2 (fun w3 q1 q2 => ⟨w3, rfl, rfl, k w3 _ hv q1 (fun x => by rw [hS]; exact (z_loose hA hb g0 g1 c x).symm) q2⟩)
  · refine c_build hT.2.2.2.1 hT.2.1 hA hb (by unfold z_ap; omega) hp (fun w4 n4 f4 => ⟨w4, rfl, rfl, k w4 _ (z_sv_A hA hb g) n4.1 (fun x => z_F_iff hA) (fun a ha => f4 a (by omega))⟩)
theorem c_isNeeded {sh : List z_C} {w : z_Mm} {A : z_A} {g : Int} {K : Int → z_Mm → Prop} (hT : z_isTG sh 0) (hA : z_okg A) (hb : z_bears A) (hp : z_pg w 1 A) (hn : z_nb w A) (g0 : 0 ≤ g) (g1 : g < A 2 0)
    (k1 : z_need A g → ∀ w', (∀ a : Nat, (a < 18 ∨ 23 < a) → w' a = w a) → K 1 w') (k0 : ¬ z_need A g → ∀ w', (∀ a : Nat, (a < 18 ∨ 23 < a) → w' a = w a) → K 0 w') : z_CI mX8_isNeeded [z_r 0, z_i g] sh w K := by
  obtain ⟨b1, b2, -, -⟩ := z_gs_bl hA g0 g1
  refine z_CIi (t_X8_isNeeded hT ⟨z_scti hA hb hp hn g0 g1, fun c => ?_, fun c => ?_⟩)
  · rw [z_cti hA hb hp hn g0 g1] at c
    exact ⟨0, w, rfl, rfl, k0 (fun q => c (z_need_tg hA hb g0 g1 q)) w (fun _ _ => rfl)⟩
  · have ht : z_tg A g := Classical.byContradiction fun q => c ((z_cti hA hb hp hn g0 g1).mpr q)
    refine c_build hT.2.2.2.1 hT.2.1 hA hb (by unfold z_ap; omega) hp (fun w3 n3 f3 => ?_)
    have f : ∀ a : Nat, (a < 18 ∨ 23 < a) → w3 a = w a := fun a ha => f3 a (by omega)
    have hp3 : z_pg w3 1 A := hp.fr (fun a a0 a1 => f a (by omega))
    have hn3 : z_nb w3 A := hn.fr (f 12 (by omega)) (f 17 (by omega))
    rw [z_cbo hA hb hp3 hn3 g0 g1, (z_cbe hp3 g0 g1).1, (z_cbe hp3 g0 g1).2.1]
    have hsv := z_sv_A hA hb g
    rw [z_fbt hsv n3.1 b1 b2]
    have hiff := z_need_iff hA g0 g1 (fun x => z_F_iff hA) (z_isd hA hb g) ht.1
    refine ⟨(z_scbe hA hp3 g0 g1).1, (z_scbe hA hp3 g0 g1).2.1, z_sbt hsv n3.1 b1 b2, z_scbo hA hb hp3 hn3 g0 g1, ?_⟩
    have h2 := ht.2
    by_cases q : z_need A g
    · have := hiff.mp q
      rw [if_neg (by unfold z_dd at *; omega)]
      exact ⟨_, _, rfl, rfl, k1 q w3 f⟩
    · have : ¬ (z_gs A g).2.2.1 < z_dd A g (z_gs A g).1 (z_gs A g).2.1 := fun c => q (hiff.mpr c)
      rw [if_pos (by unfold z_dd at *; omega)]
      exact ⟨_, _, rfl, rfl, k0 q w3 f⟩
/-! the reference's bounds, laid -/
def z_ld (w : z_Mm) (A : z_A) : Prop := w 161 13 = ((z_Sx A (-1)).length : Int) ∧ z_mt w 167 (z_Sx A (-1)) ∧ z_IsD (z_Sx A (-1)) (A 1 0) (z_mx w 172)
theorem z_bl10 {A : z_A} (hA : z_okg A) {a : Int} (h : z_bl (A 1 0) a) : z_bl 10 a := by
  have := hA.2.1
  obtain ⟨h0, h1⟩ := h
  exact ⟨h0, by omega⟩
theorem z_upup {A : z_A} {ch : Nat} {i v u : Int} (h : A ch i = u) : z_up (z_up A ch i v) ch i u = A := by
  funext c j
  unfold z_up
  split
  · rename_i q; obtain ⟨q1, q2⟩ := q; rw [q1, q2, h]
  · rfl
/-- what isNeeded leaves alone -/
def z_frI (w w' : z_Mm) : Prop := (∀ a : Nat, a ≠ 161 → a ≠ 163 → (a < 168 ∨ 172 < a) → w' a = w a) ∧ ∀ j : Int, j ≠ 13 → w' 161 j = w 161 j
theorem z_frI.trans {w w1 w2 : z_Mm} (h1 : z_frI w w1) (h2 : z_frI w1 w2) : z_frI w w2 := ⟨fun a a1 a2 a3 => (h2.1 a a1 a2 a3).trans (h1.1 a a1 a2 a3), fun j j1 => (h2.2 j j1).trans (h1.2 j j1)⟩
theorem z_frL.I {w w' : z_Mm} (h : z_frL w w') : z_frI w w' := ⟨fun a a1 _ a3 => h.1 a a1 a3, h.2⟩
theorem z_frI.of {w w' : z_Mm} (h : ∀ c : Nat, c ≠ 163 → w' c = w c) : z_frI w w' := ⟨fun a _ a2 _ => h a a2, fun j _ => by rw [h 161 (by omega)]⟩
theorem z_frI.M {w w' : z_Mm} (h : z_frI w w') : z_frM w w' := ⟨fun a a1 a2 _ _ a5 => h.1 a a1 a2 a5, fun j _ j2 => h.2 j j2⟩
theorem z_mr.I {w w' : z_Mm} {A : z_A} (h : z_mr (w 163) A) (he : w' 163 = w 163) : z_mr (w' 163) A := by rw [he]; exact h
