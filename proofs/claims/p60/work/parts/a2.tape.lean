/-! THE TAPE -/
abbrev z_T : Type := Int × (Int → Int)
def z_tc (w : z_Mm) (T : z_T) : Prop := (0 ≤ T.1 ∧ T.1 ≤ 900) ∧ w 140 1 = T.1 ∧ ∀ i : Int, 0 ≤ i → i < T.1 → w 141 i = T.2 i ∧ 0 ≤ T.2 i ∧ T.2 i ≤ 255
def z_tr (w : z_Mm) (T : z_T) : Prop := w 161 1 = T.1 ∧ ∀ i : Int, 0 ≤ i → i < T.1 → w 162 i = z_sg (T.2 i)
theorem z_tc.fr {w w' : z_Mm} {T : z_T} (h : z_tc w T) (h1 : w' 140 = w 140) (h2 : w' 141 = w 141) : z_tc w' T := by
  unfold z_tc
  rw [h1, h2]
  exact h
theorem z_tr.fr {w w' : z_Mm} {T : z_T} (h : z_tr w T) (h1 : w' 161 1 = w 161 1) (h2 : w' 162 = w 162) : z_tr w' T := by
  unfold z_tr
  rw [h1, h2]
  exact h
def z_t1 (T : z_T) (b : Int) : z_T := (T.1 + 1, fun i => if i = T.1 then b else T.2 i)
def z_t4 (T : z_T) (x : Int) : z_T := z_t1 (z_t1 (z_t1 (z_t1 T (x / 16777216 % 256)) (x / 65536 % 256)) (x / 256 % 256)) (x % 256)
def z_ftc (w w' : z_Mm) : Prop := ∀ a : Nat, a ≠ 140 → a ≠ 141 → w' a = w a
def z_ftr (w w' : z_Mm) : Prop := (∀ a : Nat, a ≠ 161 → a ≠ 162 → w' a = w a) ∧ ∀ j : Int, j ≠ 1 → w' 161 j = w 161 j
theorem z_ftc.trans {w w1 w2 : z_Mm} (h1 : z_ftc w w1) (h2 : z_ftc w1 w2) : z_ftc w w2 := fun a a1 a2 => (h2 a a1 a2).trans (h1 a a1 a2)
theorem z_ftr.trans {w w1 w2 : z_Mm} (h1 : z_ftr w w1) (h2 : z_ftr w1 w2) : z_ftr w w2 := ⟨fun a a1 a2 => (h2.1 a a1 a2).trans (h1.1 a a1 a2), fun j hj => (h2.2 j hj).trans (h1.2 j hj)⟩
theorem c_put1 {sh : List z_C} {w : z_Mm} {T : z_T} {x s s' b : Int} {Q : Option z_V → z_S → Prop} (hT : z_isTG sh 0) (h : z_tc w T) (hl : T.1 < 900) (hs : 0 ≤ s ∧ s ≤ 24) (es : s + (-8) = s') (eb : z_and (z_ushr x s) 255 = b) (hb : 0 ≤ b ∧ b ≤ 255)
    (k : ∀ w', z_tc w' (z_t1 T b) → z_ftc w w' → z_Sem mX6_putFourBytes (sh.length, 0) 3 [(0, z_r 140), (1, z_i x), (2, z_i s')] [] (sh, w') Q) : z_Sem mX6_putFourBytes (sh.length, 0) 3 [(0, z_r 140), (1, z_i x), (2, z_i s)] [] (sh, w) Q := by
  have hP : z_isTap sh 140 := hT.2.2.2.2.2.2.2.1
  obtain ⟨h0, h1, h2⟩ := h
  refine t_X6_putFourBytes_3 hP ⟨fun c => absurd c (by omega), fun _ => ⟨fun c => absurd c (by omega), fun _ => ⟨⟨by omega, by omega⟩, fun w4 e4 => ?_⟩⟩⟩
  have e41 : w4 140 1 = T.1 := by rw [e4, z_Wf (by omega)]; exact h1
  rw [e41]
  refine ⟨⟨by omega, by omega⟩, fun w7 e7 => ⟨⟨by omega, by omega⟩, ?_⟩⟩
  rw [es]
  refine k w7 ⟨⟨by show 0 ≤ T.1 + 1; omega, by show T.1 + 1 ≤ 900; omega⟩, ?_, fun i i0 i1 => ?_⟩ (fun a a1 a2 => by rw [e7, z_Wf a1, e4, z_Wf a2])
  · rw [e7, z_W_same]; rfl
  · have hi : i < T.1 + 1 := i1
    rw [e7, z_Wf (by omega), e4, eb, h1]
    show z_W w 141 T.1 b 141 i = (if i = T.1 then b else T.2 i) ∧ 0 ≤ (if i = T.1 then b else T.2 i) ∧ (if i = T.1 then b else T.2 i) ≤ 255
    by_cases c : i = T.1
    · rw [if_pos c, c, z_W_same]
      exact ⟨rfl, hb⟩
    · rw [if_neg c, z_W_ne (Or.inr c)]
      exact h2 i i0 (by omega)
theorem c_put4 {sh : List z_C} {w : z_Mm} {T : z_T} {x : Int} {K : z_Mm → Prop} (hT : z_isTG sh 0) (hx : z_R x) (h : z_tc w T) (hl : T.1 + 4 ≤ 900) (k : ∀ w', z_tc w' (z_t4 T x) → z_ftc w w' → K w') : z_CV mX6_putFourBytes [z_r 140, z_i x] sh w K := by
  have hP : z_isTap sh 140 := hT.2.2.2.2.2.2.2.1
  refine z_CVi (t_X6_putFourBytes hP ?_)
  refine c_put1 (s' := 16) hT h (by omega) (by omega) (by decide) (z_by24 hx) ⟨by omega, by omega⟩ (fun w1 h1 f1 => ?_)
  refine c_put1 (s' := 8) hT h1 (by show T.1 + 1 < 900; omega) (by omega) (by decide) (z_by16 hx) ⟨by omega, by omega⟩ (fun w2 h2 f2 => ?_)
  refine c_put1 (s' := 0) hT h2 (by show T.1 + 1 + 1 < 900; omega) (by omega) (by decide) (z_by8 hx) ⟨by omega, by omega⟩ (fun w3 h3 f3 => ?_)
  refine c_put1 (s' := -8) hT h3 (by show T.1 + 1 + 1 + 1 < 900; omega) (by omega) (by decide) (z_by0 hx) ⟨by omega, by omega⟩ (fun w4 h4 f4 => ?_)
  exact t_X6_putFourBytes_3 hP ⟨fun _ => ⟨_, rfl, rfl, k w4 h4 (((f1.trans f2).trans f3).trans f4)⟩, fun c => absurd (show (-8 : Int) < 0 by omega) c⟩
theorem z_t4_1 (T : z_T) (x : Int) : (z_t4 T x).1 = T.1 + 4 := by
  show T.1 + 1 + 1 + 1 + 1 = _
  omega
/-- APPEND -/
def z_dap (T : z_T) (a b c d e : Int) : Int × z_T := if T.1 ≤ 880 then (T.1 + 20, z_t4 (z_t4 (z_t4 (z_t4 (z_t4 T a) b) c) d) e) else (-1, T)
theorem c_append {sh : List z_C} {w : z_Mm} {T : z_T} {a b c d e : Int} {K : Int → z_Mm → Prop} (hT : z_isTG sh 0) (h : z_tc w T) (ha : z_R a) (hb : z_R b) (hc : z_R c) (hd : z_R d) (he : z_R e)
    (k : ∀ w', z_tc w' (z_dap T a b c d e).2 → z_ftc w w' → K (z_dap T a b c d e).1 w') : z_CI mX8_append [z_r 0, z_i a, z_i b, z_i c, z_i d, z_i e] sh w K := by
  have h1 := h.2.1
  have h0 := h.1
  unfold z_dap at k
  refine z_CIi (t_X8_append hT ⟨⟨by omega, by omega⟩, fun q => ?_, fun q => ?_⟩)
  · rw [if_pos (by omega)] at k
    have l1 := z_t4_1 T a
    have l2 := z_t4_1 (z_t4 T a) b
    have l3 := z_t4_1 (z_t4 (z_t4 T a) b) c
    have l4 := z_t4_1 (z_t4 (z_t4 (z_t4 T a) b) c) d
    have l5 := z_t4_1 (z_t4 (z_t4 (z_t4 (z_t4 T a) b) c) d) e
    refine c_put4 hT ha h (by omega) (fun w3 h3 f3 => c_put4 hT hb h3 (by omega) (fun w4 h4 f4 => c_put4 hT hc h4 (by omega) (fun w5 h5 f5 => c_put4 hT hd h5 (by omega) (fun w6 h6 f6 => c_put4 hT he h6 (by omega) (fun w7 h7 f7 => ?_)))))
    refine ⟨w7 140 1, w7, rfl, rfl, ?_⟩
    rw [h7.2.1, show (z_t4 (z_t4 (z_t4 (z_t4 (z_t4 T a) b) c) d) e).1 = T.1 + 20 by omega]
    exact k w7 h7 ((((f3.trans f4).trans f5).trans f6).trans f7)
  · rw [if_neg (by omega)] at k
    exact ⟨_, _, rfl, rfl, k w h (fun _ _ _ => rfl)⟩
/-- TRUNCATE -/
def z_dtr (T : z_T) (n : Int) : Int × z_T := if 0 ≤ n ∧ n ≤ T.1 then (T.1 - n, (T.1 - n, T.2)) else (-1, T)
theorem c_truncate {sh : List z_C} {w : z_Mm} {T : z_T} {n : Int} {K : Int → z_Mm → Prop} (hT : z_isTG sh 0) (h : z_tc w T) (k : ∀ w', z_tc w' (z_dtr T n).2 → z_ftc w w' → K (z_dtr T n).1 w') : z_CI mX8_truncate [z_r 0, z_i n] sh w K := by
  obtain ⟨h0, h1, h2⟩ := id h
  unfold z_dtr at k
  refine z_CIi (t_X8_truncate hT ⟨fun q => ?_, fun q => ⟨fun q2 => ?_, fun q2 => ?_⟩⟩)
  · rw [if_neg (by omega)] at k
    exact ⟨_, _, rfl, rfl, k w h (fun _ _ _ => rfl)⟩
  · rw [if_pos (by omega)] at k
    refine ⟨⟨by omega, by omega⟩, fun w4 e4 => ⟨w4 140 1, w4, rfl, rfl, ?_⟩⟩
    have e41 : w4 140 1 = T.1 - n := by rw [e4, z_W_same, h1]
    rw [e41]
    refine k w4 ⟨⟨by show 0 ≤ T.1 - n; omega, by show T.1 - n ≤ 900; omega⟩, e41, fun i i0 i1 => ?_⟩ (fun a a1 a2 => by rw [e4, z_Wf a1])
    have hi : i < T.1 - n := i1
    rw [e4, z_Wf (by omega)]
    exact h2 i i0 (by omega)
  · rw [if_neg (by omega)] at k
    exact ⟨_, _, rfl, rfl, k w h (fun _ _ _ => rfl)⟩
/-- ERRORPOSITION -/
theorem c_errorPosition {sh : List z_C} {w : z_Mm} {K : Int → z_Mm → Prop} (hT : z_isTG sh 0) (k : K (w 0 8) w) : z_CI mX8_errorPosition [z_r 0] sh w K := z_CIi (t_X8_errorPosition hT ⟨_, _, rfl, rfl, k⟩)
