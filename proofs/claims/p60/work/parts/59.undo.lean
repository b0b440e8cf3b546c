/-! UNDO, KEEP, RESTORE -/
def z_dundo (A : z_A) (H : List z_A) : Int × z_A × List z_A :=
  match H.reverse with
  | [] => (-1, A, H)
  | B :: G => ((G.length : Int), B, G.reverse)
theorem z_last (H : List z_A) : H = [] ∨ ∃ (G : List z_A) (B : z_A), H = G ++ [B] := by
  rcases h : H.reverse with _ | ⟨B, G⟩
  · exact Or.inl (List.reverse_eq_nil_iff.mp h)
  · refine Or.inr ⟨G.reverse, B, ?_⟩
    have := congrArg List.reverse h
    rw [List.reverse_reverse, List.reverse_cons] at this
    exact this
theorem z_dundo_0 {A : z_A} : z_dundo A [] = (-1, A, []) := rfl
theorem z_dundo_1 {A B : z_A} {G : List z_A} : z_dundo A (G ++ [B]) = ((G.length : Int), B, G) := by
  unfold z_dundo
  rw [List.reverse_append]
  show ((G.reverse.length : Int), B, G.reverse.reverse) = _
  rw [List.length_reverse, List.reverse_reverse]
theorem c_undo {sh : List z_C} {w : z_Mm} {A : z_A} {H : List z_A} {K : Int → z_Mm → Prop} (hT : z_isTG sh 0) (hs : z_cs w A H)
    (k : ∀ w', z_cs w' (z_dundo A H).2.1 (z_dundo A H).2.2 → z_frC w w' → K (z_dundo A H).1 w') : z_CI mX8_undo [z_r 0] sh w K := by
  obtain ⟨hA, hp, hn, hok, hh⟩ := id hs
  have h2 : w 24 2 = (H.length : Int) := hh.2.1
  refine z_CIi (t_X8_undo hT ⟨fun c => ?_, fun c => ?_⟩)
  · rcases z_last H with rfl | ⟨G, B, rfl⟩
    · exact ⟨-1, w, rfl, rfl, k w hs z_frC.rf⟩
    · rw [List.length_append, List.length_singleton] at h2
      exact absurd c (by omega)
  · rcases z_last H with rfl | ⟨G, B, rfl⟩
    · rw [List.length_nil] at h2
      exact absurd h2 c
    · rw [z_dundo_1] at k
      have hB : z_ok B := hok B (List.mem_append_right _ (List.mem_singleton.mpr rfl))
      have hG : ∀ C ∈ G, z_ok C := fun C hC => hok C (List.mem_append_left _ hC)
      refine c_bringBack hT hh (fun C hC => (hG C hC).1) hB.1 (fun w2 q1 q2 q3 => ?_)
      refine c_build hT.2.2.1 hT.2.1 hB.1 hB.2.1 (by unfold z_ap; omega) q2.1 (fun w3 n3 f3 => ?_)
      have f : ∀ a : Nat, (a < 12 ∨ 17 < a) → w3 a = w2 a := fun a ha => f3 a (by omega)
      have e : w3 24 2 = (G.length : Int) := by rw [f 24 (by omega)]; exact q1.2.1
      rw [e]
      exact ⟨_, _, rfl, rfl, k w3 ⟨hB, q2.fr hB.1 (fun a a0 a1 => f a (by omega)), n3, hG, q1.fr (fun C hC => (hG C hC).1) (fun a a0 a1 => f a (by omega))⟩ (fun a ha => by rw [f a (by omega), q3 a (by omega) (by omega)])⟩
/-- the class's slots -/
def z_slc (w : z_Mm) (s : Nat → Option z_A) : Prop := ∀ i : Nat, i < 2 → (s i = none → w 116 (i : Int) = 0) ∧ ∀ B, s i = some B → w 116 (i : Int) = 1 ∧ z_ok B ∧ z_pr w (117 + 11 * i) B
/-- the reference's slots -/
def z_sm (w : z_Mm) (s : Nat → Option z_A) : Prop := ∀ i : Nat, i < 2 → (s i = none → w 167 (i : Int) = 0) ∧ ∀ B, s i = some B → w 167 (i : Int) = 1 ∧ z_ok B ∧ z_mr (fun j => w 166 (264 * (i : Int) + j)) B
theorem z_slc.fr {w w' : z_Mm} {s : Nat → Option z_A} (h : z_slc w s) (hf : ∀ a : Nat, 116 ≤ a → a ≤ 138 → w' a = w a) : z_slc w' s := by
  intro i hi
  obtain ⟨h1, h2⟩ := h i hi
  rw [hf 116 (by omega) (by omega)]
  refine ⟨h1, fun B hB => ?_⟩
  obtain ⟨a, b, c⟩ := h2 B hB
  exact ⟨a, b, c.fr b.1 (fun x x0 x1 => hf x (by omega) (by omega))⟩
theorem z_sm.fr {w w' : z_Mm} {s : Nat → Option z_A} (h : z_sm w s) (h6 : w' 166 = w 166) (h7 : w' 167 = w 167) : z_sm w' s := by
  unfold z_sm
  rw [h6, h7]
  exact h
def z_sput (s : Nat → Option z_A) (i : Nat) (A : z_A) : Nat → Option z_A := fun j => if j = i then some A else s j
theorem z_fsl {w : z_Mm} {a : Int} : f_X8_isSlot w a = 0 ↔ ¬ (0 ≤ a ∧ a ≤ 1) := by
  unfold f_X8_isSlot
  split
  · omega
  · split <;> omega
theorem c_keep {sh : List z_C} {w : z_Mm} {A : z_A} {H : List z_A} {s : Nat → Option z_A} {i : Int} {K : Int → z_Mm → Prop} (hT : z_isTG sh 0) (hs : z_cs w A H) (hl : z_slc w s)
    (k : ∀ w', z_slc w' (if 0 ≤ i ∧ i ≤ 1 then z_sput s i.toNat A else s) → (∀ a : Nat, (a < 116 ∨ 138 < a) → w' a = w a) → K (if 0 ≤ i ∧ i ≤ 1 then A 2 0 else -1) w') : z_CI mX8_keep [z_r 0, z_i i] sh w K := by
  obtain ⟨hA, hp, hn, hok, hh⟩ := id hs
  refine z_CIi (t_X8_keep hT ⟨fun c => ?_, fun c => ?_⟩)
  · rw [z_fsl] at c
    rw [if_neg c, if_neg c] at k
    exact ⟨_, _, rfl, rfl, k w hl (fun _ _ => rfl)⟩
  · rw [z_fsl] at c
    have hi : 0 ≤ i ∧ i ≤ 1 := by omega
    rw [if_pos hi, if_pos hi] at k
    have hS : z_isSlo sh 114 := hT.2.2.2.2.2.1
    have hSP : z_isPla sh (117 + 11 * i.toNat) := hS.2.2.2 i.toNat (by omega)
    refine ⟨⟨by omega, by omega⟩, ?_⟩
    refine c_planCopy hSP hT.2.1 (by unfold z_apP; omega) hp.2.2.2 (fun w3 hc hf => ⟨⟨by omega, by omega⟩, fun w4 e4 => ?_⟩)
    have e11 : w4 1 11 = A 2 0 := by rw [e4, z_Wf (by omega), hf 1 (by omega)]; exact hp.1.2.2.1
    rw [e11]
    refine ⟨_, _, rfl, rfl, k w4 (fun j hj => ?_) (fun a ha => by rw [e4, z_Wf (by omega), hf a (by omega)])⟩
    by_cases q : j = i.toNat
    · have e : z_sput s i.toNat A j = some A := if_pos q
      rw [e]
      refine ⟨fun c => absurd c (by simp), fun B hB => ?_⟩
      cases hB
      refine ⟨by rw [e4, show (j : Int) = i by omega, z_W_same], hA, ?_⟩
      rw [q]
      exact (hp.s11 hA.1 hc).fr hA.1 (fun a a0 a1 => by rw [e4, z_Wf (by omega)])
    · have e : z_sput s i.toNat A j = s j := if_neg q
      rw [e]
      obtain ⟨h1, h2⟩ := hl j hj
      have ew : w4 116 (j : Int) = w 116 (j : Int) := by rw [e4, z_W_ne (Or.inr (by omega)), hf 116 (by omega)]
      rw [ew]
      refine ⟨h1, fun B hB => ?_⟩
      obtain ⟨a, b, c⟩ := h2 B hB
      exact ⟨a, b, c.fr b.1 (fun x x0 x1 => by rw [e4, z_Wf (by omega), hf x (by omega)])⟩
/-- RESTORE -/
def z_drest (A : z_A) (H : List z_A) (s : Nat → Option z_A) (i : Int) : Int × z_A × List z_A :=
  if 0 ≤ i ∧ i ≤ 1 then (match s i.toNat with | none => (-2, A, H) | some B => (B 2 0, B, z_push H A)) else (-1, A, H)
theorem c_restore {sh : List z_C} {w : z_Mm} {A : z_A} {H : List z_A} {s : Nat → Option z_A} {i : Int} {K : Int → z_Mm → Prop} (hT : z_isTG sh 0) (hs : z_cs w A H) (hl : z_slc w s)
    (k : ∀ w', z_cs w' (z_drest A H s i).2.1 (z_drest A H s i).2.2 → z_frC w w' → K (z_drest A H s i).1 w') : z_CI mX8_restore [z_r 0, z_i i] sh w K := by
  obtain ⟨hA, hp, hn, hok, hh⟩ := id hs
  unfold z_drest at k
  refine z_CIi (t_X8_restore hT ⟨fun c => ?_, fun c => ?_⟩)
  · rw [z_fsl] at c
    rw [if_neg c] at k
    exact ⟨_, _, rfl, rfl, k w hs z_frC.rf⟩
  · rw [z_fsl] at c
    have hi : 0 ≤ i ∧ i ≤ 1 := by omega
    rw [if_pos hi] at k
    have hS : z_isSlo sh 114 := hT.2.2.2.2.2.1
    have hSP : z_isPla sh (117 + 11 * i.toNat) := hS.2.2.2 i.toNat (by omega)
    have hii : ((i.toNat : Nat) : Int) = i := by omega
    obtain ⟨l1, l2⟩ := hl i.toNat (by omega)
    rw [hii] at l1 l2
    refine ⟨⟨by omega, by omega⟩, fun c2 => ?_, fun c2 => ?_⟩
    · rcases e : s i.toNat with _ | B
      · rw [e] at k
        exact ⟨_, _, rfl, rfl, k w hs z_frC.rf⟩
      · have := (l2 B e).1
        exact absurd c2 (by omega)
    · rcases e : s i.toNat with _ | B
      · exact absurd (l1 e) c2
      · rw [e] at k
        obtain ⟨-, hB, hpB⟩ := l2 B e
        refine c_rem hT hs (fun w4 q1 q2 q3 q4 q5 => ⟨⟨by omega, by omega⟩, ?_⟩)
        have hpB4 : z_pr w4 (117 + 11 * i.toNat) B := hpB.fr hB.1 (fun a a0 a1 => q4 a (by omega))
        refine c_planCopy hT.2.1 hSP (by unfold z_apP; omega) hpB4.2.2.2 (fun w6 hc hf => ?_)
        have hp6 : z_pr w6 1 B := hpB4.s11 hB.1 hc
        refine c_build hT.2.2.1 hT.2.1 hB.1 hB.2.1 (by unfold z_ap; omega) hp6.1 (fun w7 n7 f7 => ?_)
        have f : ∀ a : Nat, (a < 12 ∨ 17 < a) → w7 a = w6 a := fun a ha => f7 a (by omega)
        have e11 : w7 1 11 = B 2 0 := by rw [f 1 (by omega)]; exact hp6.1.2.2.1
        rw [e11]
        exact ⟨_, _, rfl, rfl, k w7 ⟨hB, hp6.fr hB.1 (fun a a0 a1 => f a (by omega)), n7, q3, q2.fr (fun C hC => (q3 C hC).1) (fun a a0 a1 => by rw [f a (by omega), hf a (by omega)])⟩ (fun a ha => by rw [f a (by omega), hf a (by omega), q4 a ha])⟩
