/-! MIDDLE -/
theorem z_W_self {w : z_Mm} {a : Nat} {i : Int} : z_W w a i (w a i) = w := by
  funext b j
  unfold z_W
  split
  · rename_i h; rw [h.1, h.2]
  · rfl
/-- the plan with the first k events pinned in the middle of their times -/
noncomputable def z_mi (A : z_A) : Nat → z_A
  | 0 => A
  | k + 1 => if z_mi A k 8 ((k : Int) + 1) = -1 then z_up (z_mi A k) 8 ((k : Int) + 1) ((z_dd (z_mi A k) (-1) 0 ((k : Int) + 1) - z_dd (z_mi A k) (-1) ((k : Int) + 1) 0) / 2) else z_mi A k
theorem z_mi_c {A : z_A} {c : Nat} {j : Int} : ∀ k : Nat, (c ≠ 8 ∨ j < 1 ∨ (k : Int) < j) → z_mi A k c j = A c j
  | 0, _ => rfl
  | k + 1, h => by
    rw [z_mi]
    split
    · rw [z_up_ne (by omega), z_mi_c k (by omega)]
    · exact z_mi_c k (by omega)
theorem z_el_R {A : z_A} {e : Int} (hA : z_okg A) (hb : z_bears A) (he : z_bl (A 1 0) e) : 0 ≤ - z_dd A (-1) e 0 ∧ - z_dd A (-1) e 0 ≤ z_dd A (-1) 0 e ∧ z_dd A (-1) 0 e ≤ 999 := by
  have h0 : z_bl (A 1 0) 0 := ⟨Int.le_refl _, by have := hA.2.1; omega⟩
  have r := z_ea_R hA hb he.1 he.2
  have r2 := z_dd_R (lo := -1) hA hb h0 he
  have t := z_Dtri (z_isd hA hb (-1)) h0 h0 he
  have t0 := z_D0 (z_isd hA hb (-1)) h0
  omega
theorem z_mi_g {A : z_A} (hA : z_okg A) (hb : z_bears A) : ∀ k : Nat, (k : Int) < A 1 0 → z_okg (z_mi A k) ∧ z_bears (z_mi A k)
  | 0, _ => ⟨hA, hb⟩
  | k + 1, h => by
    obtain ⟨h1, h2⟩ := z_mi_g hA hb k (by omega)
    have e1 : z_mi A k 1 0 = A 1 0 := z_mi_c k (by omega)
    have r := z_el_R h1 h2 (e := (k : Int) + 1) ⟨by omega, by omega⟩
    rw [z_mi]
    split
    · rename_i hu
      refine ⟨z_okg_pin h1 (by omega) (by omega), (z_pin_iff h1 h2 (by omega) (by omega) hu (by omega)).mpr ⟨?_, ?_⟩⟩
      · show - z_dd (z_mi A k) (-1) ((k : Int) + 1) 0 ≤ _
        omega
      · show _ ≤ z_dd (z_mi A k) (-1) 0 ((k : Int) + 1)
        omega
    · exact ⟨h1, h2⟩
theorem z_mi_k {A : z_A} (hA : z_okg A) (hb : z_bears A) {k : Nat} (h : (k : Int) + 1 < A 1 0) {x : Int → Int} :
    z_F (z_mi A (k + 1)) (-1) x ↔ (z_F (z_mi A k) (-1) x ∧ x ((k : Int) + 1) - x 0 = (z_dd (z_mi A k) (-1) 0 ((k : Int) + 1) - z_dd (z_mi A k) (-1) ((k : Int) + 1) 0) / 2) := by
  obtain ⟨h1, h2⟩ := z_mi_g hA hb k (by omega)
  have e1 : z_mi A k 1 0 = A 1 0 := z_mi_c k (by omega)
  have he : z_bl (z_mi A k 1 0) ((k : Int) + 1) := ⟨by omega, by omega⟩
  have h0 : z_bl (z_mi A k 1 0) 0 := ⟨by omega, by omega⟩
  have r := z_el_R h1 h2 he
  rw [z_mi]
  split
  · rename_i hu
    exact z_F_pin (by omega) (by omega) hu (by omega)
  · rename_i hu
    refine ⟨fun hx => ⟨hx, ?_⟩, fun hx => hx.1⟩
    have p := hx.2.2 ((k : Int) + 1) (by omega) (by omega) hu
    obtain ⟨-, y, hy, ey⟩ := z_isd h1 h2 (-1) 0 _ h0 he
    obtain ⟨-, z, hz, ez⟩ := z_isd h1 h2 (-1) _ 0 he h0
    have py := ((z_F_iff h1).mp hy).2.2 ((k : Int) + 1) (by omega) (by omega) hu
    have pz := ((z_F_iff h1).mp hz).2.2 ((k : Int) + 1) (by omega) (by omega) hu
    omega
theorem z_mi_m {A : z_A} {j : Nat} : ∀ k : Nat, j ≤ k → z_mi A k 8 (j : Int) = z_mi A j 8 (j : Int)
  | 0, h => by rw [show j = 0 by omega]
  | k + 1, h => by
    by_cases c : j = k + 1
    · rw [c]
    · rw [z_mi]
      split
      · rw [z_up_ne (by omega)]; exact z_mi_m k (by omega)
      · exact z_mi_m k (by omega)
theorem z_mi_p {A : z_A} (hA : z_okg A) (hb : z_bears A) {k : Nat} (h : (k : Int) + 1 < A 1 0) : z_mi A (k + 1) 8 ((k : Int) + 1) ≠ -1 := by
  obtain ⟨h1, h2⟩ := z_mi_g hA hb k (by omega)
  have e1 : z_mi A k 1 0 = A 1 0 := z_mi_c k (by omega)
  have r := z_el_R h1 h2 (e := (k : Int) + 1) ⟨by omega, by omega⟩
  rw [z_mi]
  split
  · rw [z_up_same]; omega
  · assumption
noncomputable def z_qm (A : z_A) (e : Int) : Int := if 0 ≤ e ∧ e < A 1 0 then (if e = 0 then 0 else z_mi A e.toNat 8 e) else -1
theorem c_middle {sh : List z_C} {w : z_Mm} {A : z_A} {H : List z_A} {e : Int} {K : Int → z_Mm → Prop} (hT : z_isTG sh 0) (hs : z_cs w A H) (k : ∀ w', (∀ a : Nat, (a < 18 ∨ 23 < a) → w' a = w a) → K (z_qm A e) w') : z_CI mX8_middle [z_r 0, z_i e] sh w K := by
  obtain ⟨hA, hp, hn, -, -⟩ := hs
  have r1 := hA.1.2.1
  have p10 : w 1 10 = A 1 0 := hp.1.2.1
  have h1 := z_fev (w := w) (e := e)
  rw [p10] at h1
  unfold z_qm at k
  refine z_CIi (t_X8_middle hT ⟨fun c => ?_, fun c => ?_⟩)
  · rw [if_neg (h1.mp c)] at k
    exact ⟨_, _, rfl, rfl, k w (fun _ _ => rfl)⟩
  have d : 0 ≤ e ∧ e < A 1 0 := Classical.byContradiction fun q => c (h1.mpr q)
  rw [if_pos d] at k
  have hN : z_isNet sh 18 := hT.2.2.2.1
  have h0 : z_bl (A 1 0) 0 := ⟨by omega, by omega⟩
  refine c_copyB hT hn.1 (by omega) (fun w2 b2 f2 => ?_)
  refine z_for (n := e + 1) (i0 := 1) (fun i v => z_Sem mX8_middle (sh.length, 0) 23 [(0, z_r 0), (1, z_i e), (2, z_i i)] [] (sh, v) _)
    (fun i v => (∀ a : Nat, (a < 18 ∨ 23 < a) → v a = w a) ∧ ∃ S, z_sv S (A 1 0) ∧ (∀ x, z_Fe S x ↔ z_F (z_mi A (i - 1).toNat) (-1) x) ∧ z_bd v 18 (A 1 0) S) (by omega)
    ⟨f2, _, z_sv_A hA.1 hA.2.1 (-1), fun x => z_F_iff hA.1, b2⟩ ?_ ?_
  · rintro v ⟨vf, S, hS, hF, hd⟩
    rw [show (e + 1 - 1).toNat = e.toNat by omega] at hF
    have hv : f_X2_earliest v 18 e = if e = 0 then 0 else z_mi A e.toNat 8 e := by
      rw [z_fea hS hd d]
      obtain ⟨-, y, hy, ey⟩ := z_sv_D hS e 0 d h0
      by_cases c0 : e = 0
      · rw [if_pos c0]
        rw [c0] at ey ⊢
        omega
      · rw [if_neg c0]
        have q := z_mi_p hA.1 hA.2.1 (k := (e - 1).toNat) (by omega)
        rw [show (e - 1).toNat + 1 = e.toNat by omega, show (((e - 1).toNat : Nat) : Int) + 1 = e by omega] at q
        have := ((hF y).mp hy).2.2 e (by omega) (by rw [z_mi_c _ (by omega)]; exact d.2) q
        omega
    refine t_X8_middle_23 hT ⟨fun _ => ⟨z_sea hS hd d, ?_⟩, fun c => absurd c (by omega)⟩
    rw [hv]
    exact ⟨_, _, rfl, rfl, k v vf⟩
  · rintro i v i0 i1 ⟨vf, S, hS, hF, hd⟩ kk
    have hi : z_bl (A 1 0) i := ⟨by omega, by omega⟩
    have e1 : z_mi A (i - 1).toNat 1 0 = A 1 0 := z_mi_c _ (by omega)
    obtain ⟨g1, g2⟩ := z_mi_g hA.1 hA.2.1 (i - 1).toNat (by omega)
    have r := z_el_R g1 g2 (e := i) (by rw [e1]; exact hi)
    have u1 : z_Dd S (A 1 0) i 0 = z_dd (z_mi A (i - 1).toNat) (-1) i 0 := by
      have := z_dd_S (S := S) (lo := -1) (a := i) (b := 0) g1 g2 (by rw [e1]; exact hS) hF (by rw [e1]; exact hi) (by rw [e1]; exact h0)
      rw [e1] at this
      exact this
    have u2 : z_Dd S (A 1 0) 0 i = z_dd (z_mi A (i - 1).toNat) (-1) 0 i := by
      have := z_dd_S (S := S) (lo := -1) (a := 0) (b := i) g1 g2 (by rw [e1]; exact hS) hF (by rw [e1]; exact h0) (by rw [e1]; exact hi)
      rw [e1] at this
      exact this
    have kf := fun {x : Int → Int} => z_mi_k hA.1 hA.2.1 (k := (i - 1).toNat) (x := x) (by omega)
    rw [show (((i - 1).toNat : Nat) : Int) + 1 = i by omega, show (i - 1).toNat + 1 = (i + 1 - 1).toNat by omega] at kf
    have et : (f_X2_earliest v 18 i + f_X2_latest v 18 i).tdiv 2 = (z_dd (z_mi A (i - 1).toNat) (-1) 0 i - z_dd (z_mi A (i - 1).toNat) (-1) i 0) / 2 := by
      rw [z_fea hS hd hi, z_fla hS hd hi, u1, u2, Int.tdiv_eq_ediv_of_nonneg (by omega)]
      omega
    refine t_X8_middle_23 hT ⟨fun c => absurd c (by omega), fun _ => ⟨z_sea hS hd hi, z_sla hS hd hi, ?_, ?_⟩⟩
    · rw [z_fea hS hd hi, z_fla hS hd hi, u1, u2]
      exact ⟨by omega, by omega⟩
    · rw [et]
      refine c_addPin hN hS hd hi (by rw [u1]; omega) (by rw [u2]; omega) (fun w6 d6 f6 => ⟨⟨by omega, by omega⟩, kk w6 ⟨fun a ha => by rw [f6 a (by omega)]; exact vf a ha, _, z_S2p_sv hS hi (by rw [u1]; omega) (by rw [u2]; omega), fun x => ?_, d6⟩⟩)
      rw [z_S2p_F, hF, kf]
