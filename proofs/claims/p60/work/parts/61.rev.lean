/-! REVERSE -/
def z_rev (A : z_A) (g : Int) : z_A := fun c j => if c = 3 ∧ j = g then A 4 g else if c = 4 ∧ j = g then A 3 g else A c j
theorem z_rev_ne {A : z_A} {g j : Int} {c : Nat} (h : (c ≠ 3 ∧ c ≠ 4) ∨ j ≠ g) : z_rev A g c j = A c j := by
  unfold z_rev
  rw [if_neg (by omega), if_neg (by omega)]
theorem z_rev_3 {A : z_A} {g : Int} : z_rev A g 3 g = A 4 g := if_pos ⟨rfl, rfl⟩
theorem z_rev_4 {A : z_A} {g : Int} : z_rev A g 4 g = A 3 g := by
  unfold z_rev
  rw [if_neg (by omega), if_pos ⟨rfl, rfl⟩]
theorem z_rev_F {A : z_A} {g : Int} {x : Int → Int} : z_F (z_rev A g) g x ↔ z_F A g x := by
  have e : ∀ i, i ≠ g → (z_Fg (z_rev A g) i x ↔ z_Fg A i x) := fun i hi => z_Fg_eq (z_rev_ne (Or.inr hi)) (z_rev_ne (Or.inr hi)) (z_rev_ne (Or.inr hi)) (z_rev_ne (Or.inr hi))
  unfold z_F
  rw [z_rev_ne (c := 0) (by omega), z_rev_ne (c := 1) (by omega), z_rev_ne (c := 2) (by omega)]
  constructor
  · rintro ⟨h1, h2, h3⟩
    refine ⟨fun i i0 i1 i2 i3 => (e i i3).mp (h1 i i0 i1 (by rw [z_rev_ne (Or.inr i3)]; exact i2) i3), h2, fun i i0 i1 i2 => ?_⟩
    have := h3 i i0 i1 (by rw [z_rev_ne (c := 8) (by omega)]; exact i2)
    rw [z_rev_ne (c := 8) (by omega)] at this
    exact this
  · rintro ⟨h1, h2, h3⟩
    refine ⟨fun i i0 i1 i2 i3 => (e i i3).mpr (h1 i i0 i1 (by rw [z_rev_ne (Or.inr i3)] at i2; exact i2) i3), h2, fun i i0 i1 i2 => ?_⟩
    rw [z_rev_ne (c := 8) (by omega)] at i2 ⊢
    exact h3 i i0 i1 i2
theorem z_rev_FF {A : z_A} {g : Int} (g0 : 0 ≤ g) (g1 : g < A 2 0) {x : Int → Int} : z_F (z_rev A g) (-1) x ↔ (z_F A g x ∧ (¬ A 7 g = 0 → z_Fg (z_rev A g) g x)) := by
  rw [z_F_g g0 (by rw [z_rev_ne (c := 2) (by omega)]; exact g1), z_rev_F, z_rev_ne (c := 7) (by omega)]
theorem z_okg_rev {A : z_A} {g : Int} (hA : z_okg A) : z_okg (z_rev A g) := by
  obtain ⟨a1, a2, a3, a4, a5, a6⟩ := hA
  unfold z_okg
  rw [z_rev_ne (c := 0) (by omega), z_rev_ne (c := 1) (by omega), z_rev_ne (c := 2) (by omega), z_rev_ne (c := 8) (by omega)]
  refine ⟨a1, a2, a3, fun i i0 i1 => ?_, fun e e0 e1 => by rw [z_rev_ne (c := 8) (by omega)]; exact a5 e e0 e1, a6⟩
  rw [z_rev_ne (c := 5) (by omega), z_rev_ne (c := 6) (by omega), z_rev_ne (c := 7) (by omega)]
  obtain ⟨r1, r2, r3, r4⟩ := a4 i i0 i1
  by_cases q : i = g
  · subst q
    rw [z_rev_3, z_rev_4]
    exact ⟨r2, r1, Ne.symm r3, r4⟩
  · rw [z_rev_ne (Or.inr q), z_rev_ne (Or.inr q)]
    exact ⟨r1, r2, r3, r4⟩
theorem z_okn_rev {A : z_A} {g : Int} (h : z_okn A) : z_okn (z_rev A g) := z_okn_of h (z_rev_ne (by omega)) (fun _ => z_rev_ne (by omega)) (z_rev_ne (by omega))
theorem z_rev_off {A : z_A} {g : Int} (g0 : 0 ≤ g) (g1 : g < A 2 0) (hb : z_bears A) (ho : A 7 g = 0) : z_bears (z_rev A g) := by
  obtain ⟨x, hx⟩ := hb
  exact ⟨x, (z_rev_FF g0 g1).mpr ⟨((z_F_g g0 g1).mp hx).1, fun c => absurd ho c⟩⟩
theorem z_rev_on {A : z_A} {g : Int} {S : z_E} (hA : z_okg A) (g0 : 0 ≤ g) (g1 : g < A 2 0) (ho : ¬ A 7 g = 0) (hsv : z_sv S (A 1 0)) (hS : ∀ x, z_Fe S x ↔ z_F A g x) :
    z_bears (z_rev A g) ↔ 0 ≤ (if A 5 g = 0 then A 6 g else - A 6 g) + z_Dd S (A 1 0) (if A 5 g = 0 then A 3 g else A 4 g) (if A 5 g = 0 then A 4 g else A 3 g) := by
  obtain ⟨r1, r2, -⟩ := hA.2.2.2.1 g g0 g1
  have key := z_ring1 (l' := if A 5 g = 0 then A 6 g else -(A 6 g)) (l := 0) (z_sv_D hsv) (p := if A 5 g = 0 then A 4 g else A 3 g) (q := if A 5 g = 0 then A 3 g else A 4 g) (F0 := z_F A g) (o := False)
    (by split <;> assumption) (by split <;> assumption) (fun x => by rw [hS]; exact ⟨fun h => ⟨h, fun f => f.elim⟩, fun h => h.1⟩)
  have eg : ∀ x, z_Fg (z_rev A g) g x ↔ x (if A 5 g = 0 then A 3 g else A 4 g) - x (if A 5 g = 0 then A 4 g else A 3 g) ≤ (if A 5 g = 0 then A 6 g else -(A 6 g)) := fun x =>
    z_Fg_gs z_rev_3 z_rev_4 (z_rev_ne (by omega)) (z_rev_ne (by omega))
  rw [← key]
  constructor
  · rintro ⟨x, hx⟩
    obtain ⟨q1, q2⟩ := (z_rev_FF g0 g1).mp hx
    exact ⟨x, q1, (eg x).mp (q2 ho)⟩
  · rintro ⟨x, q1, q2⟩
    exact ⟨x, (z_rev_FF g0 g1).mpr ⟨q1, fun _ => (eg x).mpr q2⟩⟩
theorem z_pr_rev {w : z_Mm} {P : Nat} {A : z_A} {g : Int} (h : z_pr w P A) : z_pr (z_W (z_W w (P + 4) g (A 4 g)) (P + 5) g (A 3 g)) P (z_rev A g) := by
  have o : ∀ c : Nat, c ≠ P + 4 → c ≠ P + 5 → z_W (z_W w (P + 4) g (A 4 g)) (P + 5) g (A 3 g) c = w c := fun c h1 h2 => by rw [z_Wf h2, z_Wf h1]
  refine h.gaps ⟨?_, ?_, ?_, fun i i0 i1 => ?_, fun e e0 e1 => ?_⟩ (z_rev_ne (by omega)) (fun ch hc e => z_rev_ne (by omega)) (fun i i0 i1 => by rw [o _ (by omega) (by omega)]; exact h.2.2.2 i i0 i1) (o _ (by omega) (by omega)) (o _ (by omega) (by omega)) (o _ (by omega) (by omega)) (o _ (by omega) (by omega))
  · rw [o _ (by omega) (by omega), z_rev_ne (by omega)]; exact h.1.1
  · rw [o _ (by omega) (by omega), z_rev_ne (by omega)]; exact h.1.2.1
  · rw [o _ (by omega) (by omega), z_rev_ne (by omega)]; exact h.1.2.2.1
  · rw [z_rev_ne (c := 2) (by omega)] at i1
    obtain ⟨a, b, c, d, e⟩ := h.1.2.2.2.1 i i0 i1
    rw [o (P + 6) (by omega) (by omega), o (P + 7) (by omega) (by omega), o (P + 8) (by omega) (by omega), z_Wf (b := P + 4) (by omega), z_rev_ne (c := 5) (by omega), z_rev_ne (c := 6) (by omega), z_rev_ne (c := 7) (by omega)]
    refine ⟨?_, ?_, c, d, e⟩
    · by_cases q : i = g
      · subst q; rw [z_W_same, z_rev_3]
      · rw [z_W_ne (Or.inr q), z_rev_ne (Or.inr q)]; exact a
    · by_cases q : i = g
      · subst q; rw [z_W_same, z_rev_4]
      · rw [z_W_ne (Or.inr q), z_Wf (by omega), z_rev_ne (Or.inr q)]; exact b
  · rw [z_rev_ne (c := 1) (by omega)] at e1
    rw [o _ (by omega) (by omega), z_rev_ne (by omega)]
    exact h.1.2.2.2.2 e e0 e1
theorem z_mr_rev {w : z_Mm} {A : z_A} {g : Int} (h : z_mr (w 163) A) (hA : z_okg A) (g0 : 0 ≤ g) (g1 : g < A 2 0) : z_mr (z_W (z_W w 163 (13 + 5 * g + 0) (A 4 g)) 163 (13 + 5 * g + 1) (A 3 g) 163) (z_rev A g) := by
  obtain ⟨⟨h1, h2, h3, h4, h5⟩, h6, h7, h8, h9⟩ := h
  have r1 := hA.2.1
  have r2 := hA.2.2.1
  have o : ∀ j : Int, j ≠ 13 + 5 * g + 0 → j ≠ 13 + 5 * g + 1 → z_W (z_W w 163 (13 + 5 * g + 0) (A 4 g)) 163 (13 + 5 * g + 1) (A 3 g) 163 j = w 163 j := fun j q1 q2 => by rw [z_W_ne (Or.inr q2), z_W_ne (Or.inr q1)]
  refine ⟨⟨?_, ?_, ?_, fun i i0 i1 => ?_, fun e e0 e1 => ?_⟩, fun e e0 e1 => ?_, by rw [z_rev_ne (by omega)]; exact h7, ?_, fun i i0 i1 => ?_⟩
  · rw [o _ (by omega) (by omega), z_rev_ne (by omega)]; exact h1
  · rw [o _ (by omega) (by omega), z_rev_ne (by omega)]; exact h2
  · rw [o _ (by omega) (by omega), z_rev_ne (by omega)]; exact h3
  · rw [z_rev_ne (c := 2) (by omega)] at i1
    obtain ⟨a, b, c, d, e⟩ := h4 i i0 i1
    rw [o (13 + 5 * i + 2) (by omega) (by omega), o (13 + 5 * i + 3) (by omega) (by omega), o (13 + 5 * i + 4) (by omega) (by omega), z_rev_ne (c := 5) (by omega), z_rev_ne (c := 6) (by omega), z_rev_ne (c := 7) (by omega)]
    refine ⟨?_, ?_, c, d, e⟩
    · by_cases q : i = g
      · subst q; rw [z_W_ne (Or.inr (by omega)), z_W_same, z_rev_3]
      · rw [o _ (by omega) (by omega), z_rev_ne (Or.inr q)]; exact a
    · by_cases q : i = g
      · subst q; rw [z_W_same, z_rev_4]
      · rw [o _ (by omega) (by omega), z_rev_ne (Or.inr q)]; exact b
  · rw [z_rev_ne (c := 1) (by omega)] at e1
    rw [o _ (by omega) (by omega), z_rev_ne (by omega)]; exact h5 e e0 e1
  · rw [z_rev_ne (c := 1) (by omega)] at e1
    rw [o _ (by omega) (by omega), z_rev_ne (by omega)]; exact h6 e e0 e1
  · rw [o _ (by omega) (by omega), z_rev_ne (by omega)]; exact h8
  · rw [z_rev_ne (c := 10) (by omega)] at i1
    rw [o _ (by omega) (by omega), o _ (by omega) (by omega), o _ (by omega) (by omega), z_rev_ne (by omega), z_rev_ne (by omega), z_rev_ne (by omega)]; exact h9 i i0 i1
noncomputable def z_drev (A : z_A) (H : List z_A) (g : Int) : Int × z_A × List z_A :=
  if 0 ≤ g ∧ g < A 2 0 then z_try A (z_rev A g) H 10 g (A 7 g) (A 7 g) else (-1, A, H)
theorem z_cs.fr {w w' : z_Mm} {A : z_A} {H : List z_A} (hs : z_cs w A H) (hf : ∀ a : Nat, (a < 18 ∨ 23 < a) → w' a = w a) : z_cs w' A H := by
  obtain ⟨hA, hp, hn, hok, hh⟩ := hs
  exact ⟨hA, hp.fr hA.1 (fun a a0 a1 => hf a (by omega)), hn.fr (fun a a0 a1 => hf a (by omega)), hok, hh.fr (fun C hC => (hok C hC).1) (fun a a0 a1 => hf a (by omega))⟩
theorem c_reverse {sh : List z_C} {w : z_Mm} {A : z_A} {H : List z_A} {g : Int} {K : Int → z_Mm → Prop} (hT : z_isTG sh 0) (hs : z_cs w A H)
    (k : ∀ w', z_cs w' (z_drev A H g).2.1 (z_drev A H g).2.2 → z_frC w w' → K (z_drev A H g).1 w') : z_CI mX8_reverse [z_r 0, z_i g] sh w K := by
  obtain ⟨hA, hp, hn, hok, hh⟩ := id hs
  have p11 : w 1 11 = A 2 0 := hp.1.2.2.1
  have r2 := hA.1.2.2.1
  unfold z_drev at k
  refine z_CIi (t_X8_reverse hT ⟨fun c => ?_, fun c => ?_⟩)
  · rw [z_fgp, p11] at c
    rw [if_neg (by omega)] at k
    exact ⟨-1, w, rfl, rfl, k w hs z_frC.rf⟩
  have hg : 0 ≤ g ∧ g < A 2 0 := by
    rw [z_fgp, p11] at c
    omega
  obtain ⟨v4, v5, v6, v7, v8⟩ := hp.1.2.2.2.1 g hg.1 hg.2
  have rr := hA.1.2.2.2.1 g hg.1 hg.2
  rw [if_pos hg] at k
  have e5 : w 5 g = A 3 g := v4
  have e6 : w 6 g = A 4 g := v5
  have e9 : w 9 g = A 7 g := v8
  have go : ∀ u : z_Mm, z_cs u A H → z_frC w u → z_bears (z_rev A g) → z_CV mX0_remember [z_r 24, z_r 1] sh u (fun w10 => (0 ≤ g ∧ g < 24) ∧ ∀ w11, w11 = z_W w10 5 g (A 4 g) → (0 ≤ g ∧ g < 24) ∧ ∀ w13, w13 = z_W w11 6 g (A 3 g) → z_CV mX8_finish [z_r 0, z_i 10, z_i g, z_i (A 7 g)] sh w13 (fun w15 => ∃ (x : Int) (w' : z_Mm), some (z_i (A 7 g)) = some (z_i x) ∧ (sh, w15) = (sh, w') ∧ K x w')) := by
    intro u hu fu hb
    rw [z_try_t hb] at k
    refine c_rem hT hu (fun w8 q1 q2 q3 q4 q5 => ⟨⟨hg.1, by omega⟩, fun w9 e9 => ⟨⟨hg.1, by omega⟩, fun w13 e13 => ?_⟩⟩)
    have hB : z_ok (z_rev A g) := ⟨z_okg_rev hA.1, hb, z_okn_rev hA.2.2⟩
    have f9 : z_frC w8 w13 := by rw [e13, e9]; exact (z_frCW (by omega)).trans (z_frCW (by omega))
    refine c_finish hT hB (by rw [e13, e9]; exact z_pr_rev (P := 1) q1) (q2.fr (fun B hB => (q3 B hB).1) (fun a a0 a1 => by rw [e13, z_Wf (by omega), e9, z_Wf (by omega)])) q3 (fun w' c1 c2 => ?_)
    exact ⟨_, _, rfl, rfl, k w' c1 (((fu.trans q4).trans f9).trans c2)⟩
  refine ⟨⟨hg.1, by omega⟩, fun y3 ey3 => ⟨⟨hg.1, by omega⟩, fun y5 ey5 => ⟨⟨hg.1, by omega⟩, fun c2 => ⟨⟨hg.1, by omega⟩, fun y9 ey9 => ?_⟩, fun c2 => ?_⟩⟩⟩
  · rw [e9, z_asn (by omega)] at ey9
    rw [ey3, ey5, ey9, e5, e6]
    rw [e9] at c2
    exact go w hs z_frC.rf (z_rev_off hg.1 hg.2 hA.2.1 c2)
  · rw [e9] at c2
    refine c_try hT hA.1 hA.2.1 hp.1 (hn.nb hA.1 hA.2.1) hg.1 hg.2 (fun w16 S s1 s2 s3 s4 => ?_)
    have hs16 := hs.fr s4
    have f16 : z_frC w w16 := fun a ha => s4 a (by omega)
    have e7 : w16 7 g = A 5 g := by rw [s4 7 (by omega)]; exact v6
    have e8 : w16 8 g = A 6 g := by rw [s4 8 (by omega)]; exact v7
    have e99 : w16 9 g = A 7 g := by rw [s4 9 (by omega)]; exact v8
    rw [ey3, ey5, e5, e6, e7, e8, z_flr s1 s2 rr.2.1 rr.1, e99, z_asn (by omega)]
    have hiff := z_rev_on hA.1 hg.1 hg.2 c2 s1 s3
    refine ⟨⟨hg.1, by omega⟩, ⟨hg.1, by omega⟩, z_slr s1 s2 rr.2.1 rr.1 rr.2.2.2.2.1, fun c3 => ⟨⟨hg.1, by omega⟩, fun y22 ey22 => ?_⟩, fun c3 => ?_⟩
    · rw [ey22]
      exact go w16 hs16 f16 (hiff.mpr c3)
    · rw [z_try_f (fun hb => c3 (hiff.mp hb))] at k
      exact ⟨_, _, rfl, rfl, k w16 hs16 f16⟩
