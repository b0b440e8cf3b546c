/-! weights -/
theorem z_fmin (w : z_Mm) (a b : Int) : f_J9_min_7cf53 w a b = min a b := by
  unfold f_J9_min_7cf53
  split <;> omega
theorem z_fmax (w : z_Mm) (a b : Int) : f_J9_max_7cf53 w a b = max a b := by
  unfold f_J9_max_7cf53
  split <;> omega
/-- S: steps with their weights; m: bounds above that begin at the steps -/
def z_W0 (S : z_E) (n : Int) (m : Int → Int → Int) : Prop :=
  (∀ y, z_Fe S y → ∀ a b, z_bl n a → z_bl n b → y b - y a ≤ m a b) ∧ (∀ a, z_bl n a → m a a ≤ 0) ∧ (∀ q ∈ S, m q.1 q.2.1 ≤ q.2.2.1) ∧ (∀ a b, z_bl n a → z_bl n b → m a b ≤ 268435456)
abbrev z_mx (w : z_Mm) (c : Nat) : Int → Int → Int := fun a b => w c (a * 10 + b)
theorem z_mxW {w : z_Mm} {c : Nat} {a0 b0 x : Int} {a b : Int} (ha0 : z_bl 10 a0) (hb0 : z_bl 10 b0) (ha : z_bl 10 a) (hb : z_bl 10 b) : z_mx (z_W w c (a0 * 10 + b0) x) c a b = if a = a0 ∧ b = b0 then x else z_mx w c a b := by
  show z_W w c (a0 * 10 + b0) x c (a * 10 + b) = _
  by_cases h : a = a0 ∧ b = b0
  · obtain ⟨rfl, rfl⟩ := h
    rw [z_W_same, if_pos ⟨rfl, rfl⟩]
  · rw [z_W_ne (Or.inr (by omega)), if_neg h]
/-- only the weights are touched -/
def z_frW (w w' : z_Mm) (c : Nat) : Prop := ∀ a : Nat, a ≠ c → w' a = w a
theorem z_frW.trans {w w1 w2 : z_Mm} {c : Nat} (h1 : z_frW w w1 c) (h2 : z_frW w1 w2 c) : z_frW w w2 c := fun a h => (h2 a h).trans (h1 a h)
theorem z_frWW {w : z_Mm} {c : Nat} {i x : Int} : z_frW w (z_W w c i x) c := fun _ ha => z_Wf ha
theorem c_startWeights {sh : List z_C} {w : z_Mm} {N : Nat} {n : Int} {S : z_E} {K : z_Mm → Prop} (hN : z_isNet sh N) (hn : 1 ≤ n ∧ n ≤ 10) (h6 : w N 6 = n) (h5 : w N 5 = (S.length : Int)) (hS : S.length ≤ 60) (hwf : z_wf S n) (hm : z_mt w N S) (hR : ∀ q ∈ S, -999 ≤ q.2.2.1 ∧ q.2.2.1 ≤ 999)
    (hF : ∀ y, z_Fe (z_sc S) y → ∀ a b, z_bl n a → z_bl n b → y b - y a ≤ 268435456) (k : ∀ w', z_W0 (z_sc S) n (z_mx w' (N + 5)) → z_frW w w' (N + 5) → K w') : z_CV mX2_startWeights [z_r N] sh w K := by
  refine z_CVi (t_X2_startWeights hN ?_)
  refine z_for (n := n) (i0 := 0) (fun i v => z_Sem mX2_startWeights (sh.length, 0) 2 [(0, z_r N), (1, z_i i)] [] (sh, v) _)
    (fun i v => z_frW w v (N + 5) ∧ ∀ a b, z_bl n a → z_bl n b → a < i → z_mx v (N + 5) a b = if a = b then 0 else 268435456) (by omega) ⟨fun _ _ => rfl, fun a b ha _ h => absurd h (by have := ha.1; omega)⟩ ?_ ?_
  · rintro v ⟨vf, vm⟩
    have v6 : v N 6 = n := by rw [vf N (by omega)]; exact h6
    refine t_X2_startWeights_2 hN ⟨fun _ => ?_, fun c => absurd (Int.le_of_eq v6) c⟩
    refine z_for (n := (S.length : Int)) (i0 := 0) (fun i v => z_Sem mX2_startWeights (sh.length, 0) 56 [(0, z_r N), (1, z_i i)] [] (sh, v) _)
      (fun i v => z_frW w v (N + 5) ∧ (∀ y, z_Fe (z_sc S) y → ∀ a b, z_bl n a → z_bl n b → y b - y a ≤ z_mx v (N + 5) a b) ∧ (∀ a, z_bl n a → z_mx v (N + 5) a a ≤ 0) ∧ (∀ (j : Nat) q, (j : Int) < i → S[j]? = some q → z_mx v (N + 5) q.1 q.2.1 ≤ 64 * q.2.2.1 + 1) ∧ (∀ a b, z_bl n a → z_bl n b → z_mx v (N + 5) a b ≤ 268435456)) (by omega)
      ⟨vf, fun y hy a b ha hb => ?_, fun a ha => ?_, fun j q hj => absurd hj (by omega), fun a b ha hb => ?_⟩ ?_ ?_
    · rw [vm a b ha hb ha.2]
      have := hF y hy a b ha hb
      split
      · rename_i e; subst e; omega
      · exact this
    · rw [vm a a ha ha ha.2, if_pos rfl]; exact Int.le_refl 0
    · rw [vm a b ha hb ha.2]; split <;> decide
    · rintro v ⟨vf, a1, a2, a3, a4⟩
      have v5 : v N 5 = (S.length : Int) := by rw [vf N (by omega)]; exact h5
      refine t_X2_startWeights_56 hN ⟨fun _ => ⟨v, rfl, rfl, k v ⟨a1, a2, fun q hq => ?_, a4⟩ vf⟩, fun c => absurd (Int.le_of_eq v5) c⟩
      obtain ⟨r, hr, rfl⟩ := List.mem_map.mp hq
      obtain ⟨j, hj⟩ := List.getElem?_of_mem hr
      have := (List.getElem?_eq_some_iff.mp hj).1
      exact a3 j r (by omega) hj
    · rintro i v i0 i1 ⟨vf, a1, a2, a3, a4⟩ kk
      have v5 : v N 5 = (S.length : Int) := by rw [vf N (by omega)]; exact h5
      have hlt : i.toNat < S.length := by omega
      obtain ⟨q, hq⟩ : ∃ q, S[i.toNat]? = some q := ⟨_, List.getElem?_eq_getElem hlt⟩
      have hmem := List.mem_of_getElem? hq
      obtain ⟨⟨w1, w2⟩, w3, w4⟩ := hwf q hmem
      obtain ⟨r1, r2⟩ := hR q hmem
      obtain ⟨b1, b2, b3, b4⟩ := hm i.toNat q hq
      rw [show ((i.toNat : Nat) : Int) = i by omega] at b1 b2 b3 b4
      have c1 : v (N + 1) i = q.1 := by rw [vf (N + 1) (by omega)]; exact b1
      have c2 : v (N + 2) i = q.2.1 := by rw [vf (N + 2) (by omega)]; exact b2
      have c3 : v (N + 3) i = q.2.2.1 := by rw [vf (N + 3) (by omega)]; exact b3
      refine t_X2_startWeights_56 hN ⟨fun c => absurd c (by rw [v5]; omega), fun _ => ?_⟩
      rw [c1, c2, c3]
      refine ⟨⟨by omega, by omega⟩, ⟨by omega, by omega⟩, ⟨by omega, by omega⟩, ⟨by omega, by omega⟩, fun y6 e6 => ⟨⟨by omega, by omega⟩, ⟨by omega, by omega⟩, ⟨⟨by omega, by omega⟩, ⟨by omega, by omega⟩, True.intro⟩, ⟨by omega, by omega⟩, fun w10 e10 => ⟨⟨by omega, by omega⟩, kk w10 ?_⟩⟩⟩
      rw [show f_X2_weightOf v q.2.2.1 = q.2.2.1 * 64 + 1 from rfl, z_fmin, e6] at e10
      have hmx : ∀ a b, z_bl n a → z_bl n b → z_mx w10 (N + 5) a b = if a = q.1 ∧ b = q.2.1 then min (z_mx v (N + 5) q.1 q.2.1) (q.2.2.1 * 64 + 1) else z_mx v (N + 5) a b := by
        intro a b ha hb
        rw [e10]
        exact z_mxW ⟨w1, by omega⟩ ⟨w3, by omega⟩ ⟨ha.1, by have := ha.2; omega⟩ ⟨hb.1, by have := hb.2; omega⟩
      refine ⟨vf.trans (by rw [e10]; exact z_frWW), fun y hy a b ha hb => ?_, fun a ha => ?_, fun j r hj hr => ?_, fun a b ha hb => ?_⟩
      · rw [hmx a b ha hb]
        have g1 := a1 y hy a b ha hb
        split
        · rename_i e
          obtain ⟨rfl, rfl⟩ := e
          have g2 := z_sc_iff.mp hy q hmem
          have g3 := a1 y hy q.1 q.2.1 ⟨w1, w2⟩ ⟨w3, w4⟩
          omega
        · exact g1
      · rw [hmx a a ha ha]
        have := a2 a ha
        split
        · rename_i e
          obtain ⟨e1, e2⟩ := e
          rw [← e1, ← e2]
          omega
        · exact this
      · have hrm := List.mem_of_getElem? hr
        rw [hmx r.1 r.2.1 (hwf r hrm).1 (hwf r hrm).2]
        by_cases hji : (j : Int) < i
        · have := a3 j r hji hr
          split
          · rename_i e
            rw [← e.1, ← e.2]
            omega
          · exact this
        · have : j = i.toNat := by omega
          subst this
          rw [hq] at hr
          cases hr
          rw [if_pos ⟨rfl, rfl⟩]
          omega
      · rw [hmx a b ha hb]
        have := a4 a b ha hb
        split
        · rename_i e
          rw [← e.1, ← e.2]
          omega
        · exact this
  · rintro i v i0 i1 ⟨vf, vm⟩ kk
    have v6 : v N 6 = n := by rw [vf N (by omega)]; exact h6
    refine t_X2_startWeights_2 hN ⟨fun c => absurd c (by rw [v6]; omega), fun _ => ?_⟩
    refine z_for (n := n) (i0 := 0) (fun j v => z_Sem mX2_startWeights (sh.length, 0) 12 [(0, z_r N), (1, z_i i), (2, z_i j)] [] (sh, v) _)
      (fun j v => z_frW w v (N + 5) ∧ ∀ a b, z_bl n a → z_bl n b → (a < i ∨ (a = i ∧ b < j)) → z_mx v (N + 5) a b = if a = b then 0 else 268435456) (by omega) ⟨vf, fun a b ha hb h => vm a b ha hb (by rcases h with h | ⟨h1, h2⟩; exact h; exact absurd h2 (by have := hb.1; omega))⟩ ?_ ?_
    · rintro v ⟨vf, vm⟩
      have v6 : v N 6 = n := by rw [vf N (by omega)]; exact h6
      refine t_X2_startWeights_12 hN ⟨fun _ => ⟨⟨by omega, by omega⟩, kk v ⟨vf, fun a b ha hb h => vm a b ha hb (by have := hb.2; omega)⟩⟩, fun c => absurd (Int.le_of_eq v6) c⟩
    · rintro j v j0 j1 ⟨vf, vm⟩ kk
      have v6 : v N 6 = n := by rw [vf N (by omega)]; exact h6
      refine t_X2_startWeights_12 hN ⟨fun c => absurd c (by rw [v6]; omega), fun _ => ⟨⟨by omega, by omega⟩, ⟨by omega, by omega⟩, ⟨by omega, by omega⟩, fun w9 e9 => ⟨⟨by omega, by omega⟩, kk w9 ⟨vf.trans (by rw [e9]; exact z_frWW), fun a b ha hb h => ?_⟩⟩⟩⟩
      rw [e9, z_mxW ⟨i0, by omega⟩ ⟨j0, by omega⟩ ⟨ha.1, by have := ha.2; omega⟩ ⟨hb.1, by have := hb.2; omega⟩]
      by_cases e : a = i ∧ b = j
      · rw [if_pos e, e.1, e.2]
      · rw [if_neg e]
        exact vm a b ha hb (by omega)
theorem c_closeWeights {sh : List z_C} {w : z_Mm} {N : Nat} {n : Int} {S : z_E} {K : z_Mm → Prop} (hN : z_isNet sh N) (hn : 1 ≤ n ∧ n ≤ 10) (h6 : w N 6 = n) (hwf : z_wf S n) (hW : z_W0 S n (z_mx w (N + 5))) {x : Int → Int} (hx : z_Fe S x) (hnear : ∀ a b, z_bl n a → z_bl n b → x b - x a ≤ 100000)
    (k : ∀ w', z_IsD S n (z_mx w' (N + 5)) → z_frW w w' (N + 5) → K w') : z_CV mX2_closeWeights [z_r N] sh w K := by
  refine z_CVi (t_X2_closeWeights hN ?_)
  refine z_for (n := n) (i0 := 0) (fun i v => z_Sem mX2_closeWeights (sh.length, 0) 2 [(0, z_r N), (1, z_i i)] [] (sh, v) _)
    (fun i v => z_frW w v (N + 5) ∧ z_W0 S n (z_mx v (N + 5)) ∧ ∀ j, z_bl n j → j < i → z_U n j (z_mx v (N + 5))) (by omega) ⟨fun _ _ => rfl, hW, fun j hj h => absurd h (by have := hj.1; omega)⟩ ?_ ?_
  · rintro v ⟨vf, vW, vU⟩
    have v6 : v N 6 = n := by rw [vf N (by omega)]; exact h6
    refine t_X2_closeWeights_2 hN ⟨fun _ => ⟨v, rfl, rfl, k v (z_FWend hwf vW.1 (fun a ha => ?_) vW.2.2.1 (fun j hj => vU j hj hj.2)) vf⟩, fun c => absurd (Int.le_of_eq v6) c⟩
    have g1 := vW.1 x hx a a ha ha
    have g2 := vW.2.1 a ha
    omega
  · rintro by_ v i0 i1 ⟨vf, vW, vU⟩ kk
    have v6 : v N 6 = n := by rw [vf N (by omega)]; exact h6
    have hby : z_bl n by_ := ⟨i0, i1⟩
    have m0 : z_mx v (N + 5) by_ by_ = 0 := by
      have g1 := vW.1 x hx by_ by_ hby hby
      have g2 := vW.2.1 by_ hby
      omega
    have lowr : ∀ a b, z_bl n a → z_bl n b → -100000 ≤ z_mx v (N + 5) a b := by
      intro a b ha hb
      have g1 := vW.1 x hx a b ha hb
      have g2 := hnear b a hb ha
      omega
    have upr := vW.2.2.2
    refine t_X2_closeWeights_2 hN ⟨fun c => absurd c (by rw [v6]; omega), fun _ => ?_⟩
    refine z_for (n := n) (i0 := 0) (fun i u => z_Sem mX2_closeWeights (sh.length, 0) 12 [(0, z_r N), (1, z_i by_), (2, z_i i)] [] (sh, u) _)
      (fun i u => z_frW v u (N + 5) ∧ ∀ a b, z_bl n a → z_bl n b → z_mx u (N + 5) a b = if a < i then min (z_mx v (N + 5) a b) (z_mx v (N + 5) a by_ + z_mx v (N + 5) by_ b) else z_mx v (N + 5) a b) (by omega) ⟨fun _ _ => rfl, fun a b ha _ => by rw [if_neg (by have := ha.1; omega)]⟩ ?_ ?_
    · rintro u ⟨uf, um⟩
      have u6 : u N 6 = n := by rw [uf N (by omega)]; exact v6
      have um' : ∀ a b, z_bl n a → z_bl n b → z_mx u (N + 5) a b = min (z_mx v (N + 5) a b) (z_mx v (N + 5) a by_ + z_mx v (N + 5) by_ b) := fun a b ha hb => by rw [um a b ha hb, if_pos ha.2]
      refine t_X2_closeWeights_12 hN ⟨fun _ => ⟨⟨by omega, by omega⟩, kk u ⟨vf.trans uf, ⟨fun y hy a b ha hb => ?_, fun a ha => ?_, fun q hq => ?_, fun a b ha hb => ?_⟩, fun j hj hji => ?_⟩⟩, fun c => absurd (Int.le_of_eq u6) c⟩
      · rw [um' a b ha hb]
        have g1 := vW.1 y hy a b ha hb
        have g2 := vW.1 y hy a by_ ha hby
        have g3 := vW.1 y hy by_ b hby hb
        omega
      · rw [um' a a ha ha]
        have g1 := vW.2.1 a ha
        omega
      · have := vW.2.2.1 q hq
        rw [um' q.1 q.2.1 (hwf q hq).1 (hwf q hq).2]
        omega
      · rw [um' a b ha hb]
        have := upr a b ha hb
        omega
      · refine z_phase hby (by omega) um' hj ?_
        by_cases e : j = by_
        · exact Or.inl e
        · exact Or.inr (vU j hj (by omega))
    · rintro i u j0 j1 ⟨uf, um⟩ kk
      have u6 : u N 6 = n := by rw [uf N (by omega)]; exact v6
      have hi : z_bl n i := ⟨j0, j1⟩
      have e1 : z_mx u (N + 5) i by_ = z_mx v (N + 5) i by_ := by rw [um i by_ hi hby, if_neg (by omega)]
      refine t_X2_closeWeights_12 hN ⟨fun c => absurd c (by rw [u6]; omega), fun _ => ⟨⟨by omega, by omega⟩, ⟨by omega, by omega⟩, ⟨by omega, by omega⟩, fun y6 e6 => ?_⟩⟩
      have e6' : y6 = z_mx v (N + 5) i by_ := e6.trans e1
      refine z_for (n := n) (i0 := 0) (fun j t => z_Sem mX2_closeWeights (sh.length, 0) 35 [(0, z_r N), (1, z_i by_), (2, z_i i), (3, z_i y6), (4, z_i j)] [] (sh, t) _)
        (fun j t => z_frW v t (N + 5) ∧ ∀ a b, z_bl n a → z_bl n b → z_mx t (N + 5) a b = if a < i ∨ (a = i ∧ b < j) then min (z_mx v (N + 5) a b) (z_mx v (N + 5) a by_ + z_mx v (N + 5) by_ b) else z_mx v (N + 5) a b) (by omega)
        ⟨uf, fun a b ha hb => by
          rw [um a b ha hb]
          by_cases c : a < i
          · rw [if_pos c, if_pos (Or.inl c)]
          · rw [if_neg c, if_neg (by have := hb.1; omega)]⟩ ?_ ?_
      · rintro t ⟨tf, tm⟩
        have t6 : t N 6 = n := by rw [tf N (by omega)]; exact v6
        refine t_X2_closeWeights_35 hN ⟨fun _ => ⟨⟨by omega, by omega⟩, kk t ⟨tf, fun a b ha hb => ?_⟩⟩, fun c => absurd (Int.le_of_eq t6) c⟩
        rw [tm a b ha hb]
        by_cases c : a < i + 1
        · rw [if_pos c, if_pos (by have := hb.2; omega)]
        · rw [if_neg c, if_neg (by omega)]
      · rintro j t k0 k1 ⟨tf, tm⟩ kk
        have t6 : t N 6 = n := by rw [tf N (by omega)]; exact v6
        have hj : z_bl n j := ⟨k0, k1⟩
        have r1 : z_mx t (N + 5) by_ j = z_mx v (N + 5) by_ j := by
          rw [tm by_ j hby hj]
          split
          · rw [m0]; omega
          · rfl
        have r2 : z_mx t (N + 5) i j = z_mx v (N + 5) i j := by rw [tm i j hi hj, if_neg (by omega)]
        have b1 := lowr i by_ hi hby
        have b2 := lowr by_ j hby hj
        have b3 := upr i by_ hi hby
        have b4 := upr by_ j hby hj
        refine t_X2_closeWeights_35 hN ⟨fun c => absurd c (by rw [t6]; omega), fun _ => ⟨⟨by omega, by omega⟩, ⟨by omega, by omega⟩, ⟨by omega, by omega⟩, ?_, fun y7 e7 => ⟨⟨by omega, by omega⟩, ⟨by omega, by omega⟩, ⟨by omega, by omega⟩, ⟨by omega, by omega⟩, fun w11 e11 => ⟨⟨by omega, by omega⟩, kk w11 ⟨tf.trans (by rw [e11]; exact z_frWW), fun a b ha hb => ?_⟩⟩⟩⟩⟩
        · rw [show t (N + 5) (by_ * 10 + j) = z_mx v (N + 5) by_ j from r1, e6']
          constructor <;> omega
        · rw [show t (N + 5) (by_ * 10 + j) = z_mx v (N + 5) by_ j from r1, e6'] at e7
          rw [show t (N + 5) (i * 10 + j) = z_mx v (N + 5) i j from r2, z_fmin, e7] at e11
          rw [e11, z_mxW ⟨j0, by omega⟩ ⟨k0, by omega⟩ ⟨ha.1, by have := ha.2; omega⟩ ⟨hb.1, by have := hb.2; omega⟩]
          by_cases e : a = i ∧ b = j
          · obtain ⟨rfl, rfl⟩ := e
            rw [if_pos ⟨rfl, rfl⟩, if_pos (by omega)]
          · rw [if_neg e, tm a b ha hb]
            by_cases c : a < i ∨ (a = i ∧ b < j)
            · rw [if_pos c, if_pos (by omega)]
            · rw [if_neg c, if_neg (by omega)]
