/-! WHAT WOULD CHANGE: counts over two nets -/
noncomputable def z_oba (d d' : Int → Int → Int) (n : Nat) : Nat → Int
  | 0 => 0
  | k + 1 => z_oba d d' n k + z_ct (fun j => ¬ d (k : Int) j = d' (k : Int) j) n
noncomputable def z_otp (d d' : Int → Int → Int) (e : Int) : Prop := ¬ (d e 0 = d' e 0 ∧ d 0 e = d' 0 e)
def z_rsa (d' : Int → Int → Int) : Nat → Int
  | 0 => 0
  | k + 1 => z_rsa d' k + (d' 0 (k : Int) + d' (k : Int) 0)
noncomputable def z_cg (d d' : Int → Int → Int) (n p : Int) : Int := if p = 0 then z_oba d d' n.toNat n.toNat else if p = 1 then z_ct (z_otp d d') n.toNat else z_rsa d' n.toNat
theorem z_ct_cg {p q : Int → Prop} {n : Int} : ∀ k : Nat, (k : Int) ≤ n → (∀ e, z_bl n e → (p e ↔ q e)) → z_ct p k = z_ct q k
  | 0, _, _ => rfl
  | k + 1, hk, h => by
    have e := h (k : Int) ⟨by omega, by omega⟩
    rw [z_ct, z_ct, z_ct_cg k (by omega) h]
    by_cases c : p (k : Int)
    · rw [if_pos c, if_pos (e.mp c)]
    · rw [if_neg c, if_neg (fun q => c (e.mpr q))]
theorem z_oba_R {d d' : Int → Int → Int} {n : Nat} : ∀ k : Nat, k ≤ 10 → n ≤ 10 → 0 ≤ z_oba d d' n k ∧ z_oba d d' n k ≤ 10 * k
  | 0, _, _ => ⟨Int.le_refl _, Int.le_refl _⟩
  | k + 1, h, hn => by
    have := z_oba_R (d := d) (d' := d') (n := n) k (by omega) hn
    have := z_ct_R (p := fun j => ¬ d (k : Int) j = d' (k : Int) j) n
    rw [z_oba]
    omega
theorem z_oba_s {d d' : Int → Int → Int} {n : Nat} {i : Int} (i0 : 0 ≤ i) : z_oba d d' n (i + 1).toNat = z_oba d d' n i.toNat + z_ct (fun j => ¬ d i j = d' i j) n := by
  have ek : (i + 1).toNat = i.toNat + 1 := by omega
  rw [ek, z_oba, show ((i.toNat : Nat) : Int) = i by omega]
theorem z_rsa_s {d' : Int → Int → Int} {i : Int} (i0 : 0 ≤ i) : z_rsa d' (i + 1).toNat = z_rsa d' i.toNat + (d' 0 i + d' i 0) := by
  have ek : (i + 1).toNat = i.toNat + 1 := by omega
  rw [ek, z_rsa, show ((i.toNat : Nat) : Int) = i by omega]
theorem z_rsa_R {d' : Int → Int → Int} {n : Int} (hn : 1 ≤ n) (hR : ∀ a b, z_bl n a → z_bl n b → -999 ≤ d' a b ∧ d' a b ≤ 999) : ∀ k : Nat, (k : Int) ≤ n → -1998 * (k : Int) ≤ z_rsa d' k ∧ z_rsa d' k ≤ 1998 * (k : Int)
  | 0, _ => ⟨by show _ ≤ (0 : Int); omega, by show (0 : Int) ≤ _; omega⟩
  | k + 1, h => by
    have := z_rsa_R hn hR k (by omega)
    have a := hR 0 (k : Int) ⟨by omega, by omega⟩ ⟨by omega, by omega⟩
    have b := hR (k : Int) 0 ⟨by omega, by omega⟩ ⟨by omega, by omega⟩
    rw [z_rsa]
    omega
theorem z_cg_c {d e e' : Int → Int → Int} {n p : Int} (hn : 1 ≤ n) (h : ∀ a b, z_bl n a → z_bl n b → e a b = e' a b) : z_cg d e n p = z_cg d e' n p := by
  have h1 : ∀ k : Nat, (k : Int) ≤ n → z_oba d e n.toNat k = z_oba d e' n.toNat k := by
    intro k
    induction k with
    | zero => intro _; rfl
    | succ k ih =>
      intro hk
      rw [z_oba, z_oba, ih (by omega), z_ct_cg (n := n) n.toNat (by omega) (fun j hj => by rw [h (k : Int) j ⟨by omega, by omega⟩ hj])]
  have h2 : z_ct (z_otp d e) n.toNat = z_ct (z_otp d e') n.toNat := z_ct_cg (n := n) n.toNat (by omega) (fun j hj => by
    unfold z_otp
    rw [h j 0 hj ⟨by omega, by omega⟩, h 0 j ⟨by omega, by omega⟩ hj])
  have h3 : ∀ k : Nat, (k : Int) ≤ n → z_rsa e k = z_rsa e' k := by
    intro k
    induction k with
    | zero => intro _; rfl
    | succ k ih =>
      intro hk
      rw [z_rsa, z_rsa, ih (by omega), h 0 (k : Int) ⟨by omega, by omega⟩ ⟨by omega, by omega⟩, h (k : Int) 0 ⟨by omega, by omega⟩ ⟨by omega, by omega⟩]
  unfold z_cg
  rw [h1 n.toNat (by omega), h2, h3 n.toNat (by omega)]
/-- bounds that a net tells -/
def z_tb2 (w : z_Mm) (N : Nat) (n : Int) (d : Int → Int → Int) : Prop := w N 6 = n ∧ ∀ a b, z_bl n a → z_bl n b → f_X2_between w N a b = d a b ∧ s_X2_between w N a b ∧ (-999 ≤ d a b ∧ d a b ≤ 999)
theorem z_tb2.ea {w : z_Mm} {N : Nat} {n : Int} {d : Int → Int → Int} (h : z_tb2 w N n d) (hn : 1 ≤ n) {e : Int} (he : z_bl n e) : (f_X2_earliest w N e = - d e 0 ∧ s_X2_earliest w N e) ∧ f_X2_latest w N e = d 0 e ∧ s_X2_latest w N e := by
  have h0 : z_bl n 0 := ⟨by omega, by omega⟩
  obtain ⟨a1, a2, a3⟩ := h.2 e 0 he h0
  obtain ⟨b1, b2, b3⟩ := h.2 0 e h0 he
  refine ⟨⟨?_, a2, ?_, True.intro⟩, b1, b2, True.intro⟩
  · unfold f_X2_earliest
    rw [a1]
  · rw [a1]
    exact ⟨by omega, by omega⟩
theorem c_change {sh : List z_C} {w : z_Mm} {n p : Int} {d d' : Int → Int → Int} {K : Int → z_Mm → Prop} (hT : z_isTG sh 0) (hn : 1 ≤ n ∧ n ≤ 10) (h12 : z_tb2 w 12 n d) (h18 : z_tb2 w 18 n d')
    (k : K (z_cg d d' n p) w) : z_CI mX8_changeOnTrial [z_r 0, z_i p] sh w K := by
  have hN : z_isNet sh 12 := hT.2.2.1
  have hN' : z_isNet sh 18 := hT.2.2.2.1
  have e12 := h12.1
  have e18 := h18.1
  unfold z_cg at k
  refine z_CIi (t_X8_changeOnTrial hT ⟨fun c => ?_, fun c => ?_, fun c => ?_⟩)
  · rw [if_pos c] at k
    refine z_CIi (t_X2_countOtherBounds hN hN' ?_)
    refine z_for (n := n) (i0 := 0) (fun i v => z_Sem mX2_countOtherBounds (sh.length, 0) 4 [(0, z_r 12), (1, z_r 18), (2, z_i (z_oba d d' n.toNat i.toNat)), (3, z_i i)] [] (sh, v) _) (fun i v => v = w) (by omega) rfl ?_ ?_
    · rintro v rfl
      exact t_X2_countOtherBounds_4 hN hN' ⟨fun _ => ⟨_, _, rfl, rfl, _, _, rfl, rfl, k⟩, fun c => absurd c (by omega)⟩
    · rintro i v i0 i1 rfl kk
      have kk' := kk v rfl
      have rs := z_oba_R (d := d) (d' := d') (n := n.toNat) i.toNat (by omega) (by omega)
      refine t_X2_countOtherBounds_4 hN hN' ⟨fun c => absurd c (by omega), fun _ => ?_⟩
      have e0 : z_oba d d' n.toNat i.toNat = z_oba d d' n.toNat i.toNat + z_ct (fun j => ¬ d i j = d' i j) (0 : Int).toNat := (Int.add_zero _).symm
      rw [e0]
      refine z_for (n := n) (i0 := 0) (fun j u => z_Sem mX2_countOtherBounds (sh.length, 0) 15 [(0, z_r 12), (1, z_r 18), (2, z_i (z_oba d d' n.toNat i.toNat + z_ct (fun j => ¬ d i j = d' i j) j.toNat)), (3, z_i i), (4, z_i j)] [] (sh, u) _) (fun j u => u = v) (by omega) rfl ?_ ?_
      · rintro u rfl
        rw [z_oba_s i0] at kk'
        exact t_X2_countOtherBounds_15 hN hN' ⟨fun _ => ⟨⟨by omega, by omega⟩, kk'⟩, fun c => absurd c (by omega)⟩
      · rintro j u j0 j1 rfl k2
        have k2' := k2 u rfl
        obtain ⟨a1, a2, -⟩ := h12.2 i j ⟨i0, i1⟩ ⟨j0, j1⟩
        obtain ⟨b1, b2, -⟩ := h18.2 i j ⟨i0, i1⟩ ⟨j0, j1⟩
        have rc := z_ct_R (p := fun j => ¬ d i j = d' i j) j.toNat
        refine t_X2_countOtherBounds_15 hN hN' ⟨fun c => absurd c (by omega), fun _ => ?_⟩
        rw [a1, b1]
        have ed : (f_X8_asNumber u (if d i j = d' i j then 0 else 1) = 1 ∧ ¬ d i j = d' i j) ∨ (f_X8_asNumber u (if d i j = d' i j then 0 else 1) = 0 ∧ ¬ ¬ d i j = d' i j) := by
          unfold f_X8_asNumber
          by_cases q : d i j = d' i j
          · exact Or.inr ⟨by rw [if_pos q]; rfl, fun c => c q⟩
          · exact Or.inl ⟨by rw [if_neg q]; rfl, q⟩
        refine ⟨a2, b2, ⟨by omega, by omega⟩, fun y10 e10 => ⟨⟨by omega, by omega⟩, ?_⟩⟩
        have ey : y10 = z_oba d d' n.toNat i.toNat + z_ct (fun j => ¬ d i j = d' i j) (j + 1).toNat := by
          have := z_ct_y (p := fun j => ¬ d i j = d' i j) j0 ed rfl
          omega
        rw [ey]
        exact k2'
  · rw [if_neg (by omega), if_pos c] at k
    refine z_CIi (t_X2_countOtherTimes hN hN' ?_)
    refine z_for (n := n) (i0 := 0) (fun i v => z_Sem mX2_countOtherTimes (sh.length, 0) 4 [(0, z_r 12), (1, z_r 18), (2, z_i (z_ct (z_otp d d') i.toNat)), (3, z_i i)] [] (sh, v) _) (fun i v => v = w) (by omega) rfl ?_ ?_
    · rintro v rfl
      exact t_X2_countOtherTimes_4 hN hN' ⟨fun _ => ⟨_, _, rfl, rfl, _, _, rfl, rfl, k⟩, fun c => absurd c (by omega)⟩
    · rintro i v i0 i1 rfl kk
      have kk' := kk v rfl
      obtain ⟨⟨a1, a2⟩, a3, a4⟩ := h12.ea hn.1 (e := i) ⟨i0, i1⟩
      obtain ⟨⟨b1, b2⟩, b3, b4⟩ := h18.ea hn.1 (e := i) ⟨i0, i1⟩
      have rc := z_ct_R (p := z_otp d d') i.toNat
      refine t_X2_countOtherTimes_4 hN hN' ⟨fun c => absurd c (by omega), fun _ => ?_⟩
      rw [a1, b1, a3, b3]
      have ed : (f_X8_asNumber v (if - d i 0 = - d' i 0 then (if d 0 i = d' 0 i then 0 else 1) else 1) = 1 ∧ z_otp d d' i) ∨ (f_X8_asNumber v (if - d i 0 = - d' i 0 then (if d 0 i = d' 0 i then 0 else 1) else 1) = 0 ∧ ¬ z_otp d d' i) := by
        unfold f_X8_asNumber z_otp
        (repeat' split) <;> omega
      refine ⟨a2, b2, fun _ => ⟨a4, b4, True.intro⟩, ⟨by omega, by omega⟩, fun y16 e16 => ⟨⟨by omega, by omega⟩, ?_⟩⟩
      rw [z_ct_y (p := z_otp d d') i0 ed e16]
      exact kk'
  · rw [if_neg c.1, if_neg c.2] at k
    refine z_CIi (t_X2_room hN' ?_)
    refine z_for (n := n) (i0 := 0) (fun i v => z_Sem mX2_room (sh.length, 0) 4 [(0, z_r 18), (1, z_i (z_rsa d' i.toNat)), (2, z_i i)] [] (sh, v) _) (fun i v => v = w) (by omega) rfl ?_ ?_
    · rintro v rfl
      exact t_X2_room_4 hN' ⟨fun _ => ⟨_, _, rfl, rfl, _, _, rfl, rfl, k⟩, fun c => absurd c (by omega)⟩
    · rintro i v i0 i1 rfl kk
      have kk' := kk v rfl
      have h0 : z_bl n 0 := ⟨by omega, by omega⟩
      obtain ⟨⟨b1, b2⟩, b3, b4⟩ := h18.ea hn.1 (e := i) ⟨i0, i1⟩
      have q1 := (h18.2 i 0 ⟨i0, i1⟩ h0).2.2
      have q2 := (h18.2 0 i h0 ⟨i0, i1⟩).2.2
      have rs := z_rsa_R hn.1 (fun a b ha hb => (h18.2 a b ha hb).2.2) i.toNat (by omega)
      refine t_X2_room_4 hN' ⟨fun c => absurd c (by omega), fun _ => ?_⟩
      rw [b1, b3]
      refine ⟨b4, b2, ⟨by omega, by omega⟩, ⟨by omega, by omega⟩, fun y6 e6 => ⟨⟨by omega, by omega⟩, ?_⟩⟩
      rw [z_rsa_s i0] at kk'
      rw [show y6 = z_rsa d' i.toNat + (d' 0 i + d' i 0) by omega]
      exact kk'
/-! the reference's counts -/
def z_nowb (w : z_Mm) (n : Int) (d : Int → Int → Int) : Prop := ∀ a b, z_bl n a → z_bl n b → w 175 (10 * a + b) = d a b
def z_bw (w : z_Mm) (n : Int) (d : Int → Int → Int) : Prop := ∀ a b, z_bl n a → z_bl n b → w 172 (10 * a + b) = d a b ∧ (-999 ≤ d a b ∧ d a b ≤ 999)
noncomputable def z_tth (A B : z_A) (p : Int) : Int := @ite _ (z_bears B) (Classical.propDecidable _) (z_cg (z_dd A (-1)) (z_dd B (-1)) (A 1 0) p) (-5)
theorem z_tth_t {A B : z_A} {p : Int} (h : z_bears B) : z_tth A B p = z_cg (z_dd A (-1)) (z_dd B (-1)) (A 1 0) p := if_pos h
theorem z_tth_f {A B : z_A} {p : Int} (h : ¬ z_bears B) : z_tth A B p = -5 := if_neg h
