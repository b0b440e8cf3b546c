/-! WHAT WOULD CHANGE: counts over two nets -/
noncomputable def z_oba (d d' : Int → Int → Int) (n : Nat) : Nat → Int
  | 0 => 0
  | k + 1 => z_oba d d' n k + z_ct (fun j => ¬ d (k : Int) j = d' (k : Int) j) n
noncomputable def z_otp (d d' : Int → Int → Int) (e : Int) : Prop := ¬ (d e 0 = d' e 0 ∧ d 0 e = d' 0 e)
def z_rsa (d' : Int → Int → Int) : Nat → Int
  | 0 => 0
  | k + 1 => z_rsa d' k + (d' 0 (k : Int) + d' (k : Int) 0)
noncomputable def z_cg (d d' : Int → Int → Int) (n p : Int) : Int := if p = 0 then z_oba d d' n.toNat n.toNat else if p = 1 then z_ct (z_otp d d') n.toNat else z_rsa d' n.toNat
theorem z_ct_cg {p q : Int → Prop} {n : Int} : ∀ k : Nat, (k : Int) ≤ n → (∀ e, z_bl n e → (p e ↔ q e)) → z_ct p k = z_ct q k
  | 0, _, _ => rfl
  | k + 1, hk, h => by
    have e := h (k : Int) ⟨by omega, by omega⟩
    rw [z_ct, z_ct, z_ct_cg k (by omega) h]
    by_cases c : p (k : Int)
    · rw [if_pos c, if_pos (e.mp c)]
    · rw [if_neg c, if_neg (fun q => c (e.mpr q))]
theorem z_oba_R {d d' : Int → Int → Int} {n : Nat} : ∀ k : Nat, k ≤ 10 → n ≤ 10 → 0 ≤ z_oba d d' n k ∧ z_oba d d' n k ≤ 10 * k
  | 0, _, _ => ⟨Int.le_refl _, Int.le_refl _⟩
  | k + 1, h, hn => by
    have := z_oba_R (d := d) (d' := d') (n := n) k (by omega) hn
    have := z_ct_R (p := fun j => ¬ d (k : Int) j = d' (k : Int) j) n
    rw [z_oba]
    omega
theorem z_oba_s {d d' : Int → Int → Int} {n : Nat} {i : Int} (i0 : 0 ≤ i) : z_oba d d' n (i + 1).toNat = z_oba d d' n i.toNat + z_ct (fun j => ¬ d i j = d' i j) n := by
  have ek : (i + 1).toNat = i.toNat + 1 := by omega
  rw [ek, z_oba, show ((i.toNat : Nat) : Int) = i by omega]
theorem z_rsa_s {d' : Int → Int → Int} {i : Int} (i0 : 0 ≤ i) : z_rsa d' (i + 1).toNat = z_rsa d' i.toNat + (d' 0 i + d' i 0) := by
  have ek : (i + 1).toNat = i.toNat + 1 := by omega
  rw [ek, z_rsa, show ((i.toNat : Nat) : Int) = i by omega]
theorem z_rsa_R {d' : Int → Int → Int} {n : Int} (hn : 1 ≤ n) (hR : ∀ a b, z_bl n a → z_bl n b → -999 ≤ d' a b ∧ d' a b ≤ 999) : ∀ k : Nat, (k : Int) ≤ n → -1998 * (k : Int) ≤ z_rsa d' k ∧ z_rsa d' k ≤ 1998 * (k : Int)
  | 0, _ => ⟨by show _ ≤ (0 : Int); omega, by show (0 : Int) ≤ _; omega⟩
  | k + 1, h => by
    have := z_rsa_R hn hR k (by omega)
    have a := hR 0 (k : Int) ⟨by omega, by omega⟩ ⟨by omega, by omega⟩
    have b := hR (k : Int) 0 ⟨by omega, by omega⟩ ⟨by omega, by omega⟩
    rw [z_rsa]
    omega
theorem z_cg_c {d e e' : Int → Int → Int} {n p : Int} (hn : 1 ≤ n) (h : ∀ a b, z_bl n a → z_bl n b → e a b = e' a b) : z_cg d e n p = z_cg d e' n p := by
  have h1 : ∀ k : Nat, (k : Int) ≤ n → z_oba d e n.toNat k = z_oba d e' n.toNat k := by
    intro k
    induction k with
    | zero => intro _; rfl
    | succ k ih =>
      intro hk
      rw [z_oba, z_oba, ih (by omega), z_ct_cg (n := n) n.toNat (by omega) (fun j hj => by rw [h (k : Int) j ⟨by omega, by omega⟩ hj])]
  have h2 : z_ct (z_otp d e) n.toNat = z_ct (z_otp d e') n.toNat := z_ct_cg (n := n) n.toNat (by omega) (fun j hj => by
    unfold z_otp
    rw [h j 0 hj ⟨by omega, by omega⟩, h 0 j ⟨by omega, by omega⟩ hj])
  have h3 : ∀ k : Nat, (k : Int) ≤ n → z_rsa e k = z_rsa e' k := by
    intro k
    induction k with
    | zero => intro _; rfl
    | succ k ih =>
      intro hk
      rw [z_rsa, z_rsa, ih (by omega), h 0 (k : Int) ⟨by omega, by omega⟩ ⟨by omega, by omega⟩, h (k : Int) 0 ⟨by omega, by omega⟩ ⟨by omega, by omega⟩]
  unfold z_cg
  rw [h1 n.toNat (by omega), h2, h3 n.toNat (by omega)]
/-- bounds that a net tells -/
def z_tb2 (w : z_Mm) (N : Nat) (n : Int) (d : Int → Int → Int) : Prop := w N 6 = n ∧ ∀ a b, z_bl n a → z_bl n b → f_X2_between w N a b = d a b ∧ s_X2_between w N a b ∧ (-999 ≤ d a b ∧ d a b ≤ 999)
theorem z_tb2.ea {w : z_Mm} {N : Nat} {n : Int} {d : Int → Int → Int} (h : z_tb2 w N n d) (hn : 1 ≤ n) {e : Int} (he : z_bl n e) : (f_X2_earliest w N e = - d e 0 ∧ s_X2_earliest w N e) ∧ f_X2_latest w N e = d 0 e ∧ s_X2_latest w N e := by
  have h0 : z_bl n 0 := ⟨by omega, by omega⟩
  obtain ⟨a1, a2, a3⟩ := h.2 e 0 he h0
  obtain ⟨b1, b2, b3⟩ := h.2 0 e h0 he
  refine ⟨⟨?_, a2, ?_, True.intro⟩, b1, b2, True.intro⟩
  · unfold f_X2_earliest
    rw [a1]
  · rw [a1]
    exact ⟨by omega, by omega⟩
theorem c_change {sh : List z_C} {w : z_Mm} {n p : Int} {d d' : Int → Int → Int} {K : Int → z_Mm → Prop} (hT : z_isTG sh 0) (hn : 1 ≤ n ∧ n ≤ 10) (h12 : z_tb2 w 12 n d) (h18 : z_tb2 w 18 n d')
    (k : K (z_cg d d' n p) w) : z_CI mX8_changeOnTrial [z_r 0, z_i p] sh w K := by
  have hN : z_isNet sh 12 := hT.2.2.1
  have hN' : z_isNet sh 18 := hT.2.2.2.1
  have e12 := h12.1
  have e18 := h18.1
  unfold z_cg at k
  refine z_CIi (t_X8_changeOnTrial hT ⟨fun c => ?_, fun c => ?_, fun c => ?_⟩)
  · rw [if_pos c] at k
    refine z_CIi (t_X2_countOtherBounds hN hN' ?_)
    refine z_for (n := n) (i0 := 0) (fun i v => z_Sem mX2_countOtherBounds (sh.length, 0) 4 [(0, z_r 12), (1, z_r 18), (2, z_i (z_oba d d' n.toNat i.toNat)), (3, z_i i)] [] (sh, v) _) (fun i v => v = w) (by omega) rfl ?_ ?_
    · rintro v rfl
      exact t_X2_countOtherBounds_4 hN hN' ⟨fun _ => ⟨_, _, rfl, rfl, _, _, rfl, rfl, k⟩, fun c => absurd c (by omega)⟩
    · rintro i v i0 i1 rfl kk
      have kk' := kk v rfl
      have rs := z_oba_R (d := d) (d' := d') (n := n.toNat) i.toNat (by omega) (by omega)
      refine t_X2_countOtherBounds_4 hN hN' ⟨fun c => absurd c (by omega), fun _ => ?_⟩
      have e0 : z_oba d d' n.toNat i.toNat = z_oba d d' n.toNat i.toNat + z_ct (fun j => ¬ d i j = d' i j) (0 : Int).toNat := (Int.add_zero _).symm
      rw [e0]
      refine z_for (n := n) (i0 := 0) (fun j u => z_Sem mX2_countOtherBounds (sh.length, 0) 15 [(0, z_r 12), (1, z_r 18), (2, z_i (z_oba d d' n.toNat i.toNat + z_ct (fun j => ¬ d i j = d' i j) j.toNat)), (3, z_i i), (4, z_i j)] [] (sh, u) _) (fun j u => u = v) (by omega) rfl ?_ ?_
      · rintro u rfl
        rw [z_oba_s i0] at kk'
        exact t_X2_countOtherBounds_15 hN hN' ⟨fun _ => ⟨⟨by omega, by omega⟩, kk'⟩, fun c => absurd c (by omega)⟩
      · rintro j u j0 j1 rfl k2
        have k2' := k2 u rfl
        obtain ⟨a1, a2, -⟩ := h12.2 i j ⟨i0, i1⟩ ⟨j0, j1⟩
        obtain ⟨b1, b2, -⟩ := h18.2 i j ⟨i0, i1⟩ ⟨j0, j1⟩
        have rc := z_ct_R (p := fun j => ¬ d i j = d' i j) j.toNat
        refine t_X2_countOtherBounds_15 hN hN' ⟨fun c => absurd c (by omega), fun _ => ?_⟩
        rw [a1, b1]
        have ed : (f_X8_asNumber u (if d i j = d' i j then 0 else 1) = 1 ∧ ¬ d i j = d' i j) ∨ (f_X8_asNumber u (if d i j = d' i j then 0 else 1) = 0 ∧ ¬ ¬ d i j = d' i j) := by
          unfold f_X8_asNumber
          by_cases q : d i j = d' i j
          · exact Or.inr ⟨by rw [if_pos q]; rfl, fun c => c q⟩
          · exact Or.inl ⟨by rw [if_neg q]; rfl, q⟩
        refine ⟨a2, b2, ⟨by omega, by omega⟩, fun y10 e10 => ⟨⟨by omega, by omega⟩, ?_⟩⟩
        have ey : y10 = z_oba d d' n.toNat i.toNat + z_ct (fun j => ¬ d i j = d' i j) (j + 1).toNat := by
          have := z_ct_y (p := fun j => ¬ d i j = d' i j) j0 ed rfl
          omega
        rw [ey]
        exact k2'
  · rw [if_neg (by omega), if_pos c] at k
    refine z_CIi (t_X2_countOtherTimes hN hN' ?_)
    refine z_for (n := n) (i0 := 0) (fun i v => z_Sem mX2_countOtherTimes (sh.length, 0) 4 [(0, z_r 12), (1, z_r 18), (2, z_i (z_ct (z_otp d d') i.toNat)), (3, z_i i)] [] (sh, v) _) (fun i v => v = w) (by omega) rfl ?_ ?_
    · rintro v rfl
      exact t_X2_countOtherTimes_4 hN hN' ⟨fun _ => ⟨_, _, rfl, rfl, _, _, rfl, rfl, k⟩, fun c => absurd c (by omega)⟩
    · rintro i v i0 i1 rfl kk
      have kk' := kk v rfl
      obtain ⟨⟨a1, a2⟩, a3, a4⟩ := h12.ea hn.1 (e := i) ⟨i0, i1⟩
      obtain ⟨⟨b1, b2⟩, b3, b4⟩ := h18.ea hn.1 (e := i) ⟨i0, i1⟩
      have rc := z_ct_R (p := z_otp d d') i.toNat
      refine t_X2_countOtherTimes_4 hN hN' ⟨fun c => absurd c (by omega), fun _ => ?_⟩
      rw [a1, b1, a3, b3]
      have ed : (f_X8_asNumber v (if - d i 0 = - d' i 0 then (if d 0 i = d' 0 i then 0 else 1) else 1) = 1 ∧ z_otp d d' i) ∨ (f_X8_asNumber v (if - d i 0 = - d' i 0 then (if d 0 i = d' 0 i then 0 else 1) else 1) = 0 ∧ ¬ z_otp d d' i) := by
        unfold f_X8_asNumber z_otp
        (repeat' split) <;> omega
      refine ⟨a2, b2, fun _ => ⟨a4, b4, True.intro⟩, ⟨by omega, by omega⟩, fun y16 e16 => ⟨⟨by omega, by omega⟩, ?_⟩⟩
      rw [z_ct_y (p := z_otp d d') i0 ed e16]
      exact kk'
  · rw [if_neg c.1, if_neg c.2] at k
    refine z_CIi (t_X2_room hN' ?_)
    refine z_for (n := n) (i0 := 0) (fun i v => z_Sem mX2_room (sh.length, 0) 4 [(0, z_r 18), (1, z_i (z_rsa d' i.toNat)), (2, z_i i)] [] (sh, v) _) (fun i v => v = w) (by omega) rfl ?_ ?_
    · rintro v rfl
      exact t_X2_room_4 hN' ⟨fun _ => ⟨_, _, rfl, rfl, _, _, rfl, rfl, k⟩, fun c => absurd c (by omega)⟩
    · rintro i v i0 i1 rfl kk
      have kk' := kk v rfl
      have h0 : z_bl n 0 := ⟨by omega, by omega⟩
      obtain ⟨⟨b1, b2⟩, b3, b4⟩ := h18.ea hn.1 (e := i) ⟨i0, i1⟩
      have q1 := (h18.2 i 0 ⟨i0, i1⟩ h0).2.2
      have q2 := (h18.2 0 i h0 ⟨i0, i1⟩).2.2
      have rs := z_rsa_R hn.1 (fun a b ha hb => (h18.2 a b ha hb).2.2) i.toNat (by omega)
      refine t_X2_room_4 hN' ⟨fun c => absurd c (by omega), fun _ => ?_⟩
      rw [b1, b3]
      refine ⟨b4, b2, ⟨by omega, by omega⟩, ⟨by omega, by omega⟩, fun y6 e6 => ⟨⟨by omega, by omega⟩, ?_⟩⟩
      rw [z_rsa_s i0] at kk'
      rw [show y6 = z_rsa d' i.toNat + (d' 0 i + d' i 0) by omega]
      exact kk'
/-! the reference's counts -/
def z_nowb (w : z_Mm) (n : Int) (d : Int → Int → Int) : Prop := ∀ a b, z_bl n a → z_bl n b → w 175 (10 * a + b) = d a b
def z_bw (w : z_Mm) (n : Int) (d : Int → Int → Int) : Prop := ∀ a b, z_bl n a → z_bl n b → w 172 (10 * a + b) = d a b ∧ (-999 ≤ d a b ∧ d a b ≤ 999)
theorem m_oB {sh : List z_C} {w : z_Mm} {n : Int} {d d' : Int → Int → Int} {K : Int → z_Mm → Prop} (hM : z_isMod sh 161) (hn : 1 ≤ n ∧ n ≤ 10) (h1 : w 163 1 = n) (hd : z_nowb w n d) (hd' : z_bw w n d') (h0 : ∀ a, z_bl n a → d a a = d' a a)
    (k : K (z_cg d d' n 0) w) : z_CI mX9_otherBounds [z_r 161] sh w K := by
  unfold z_cg at k
  rw [if_pos rfl] at k
  refine z_CIi (t_X9_otherBounds hM ?_)
  refine z_for (n := n) (i0 := 0) (fun i v => z_Sem mX9_otherBounds (sh.length, 0) 4 [(0, z_r 161), (1, z_i (z_oba d d' n.toNat i.toNat)), (2, z_i i)] [] (sh, v) _) (fun i v => v = w) (by omega) rfl ?_ ?_
  · rintro v rfl
    exact t_X9_otherBounds_4 hM ⟨fun _ => ⟨_, _, rfl, rfl, k⟩, fun c => absurd c (by omega)⟩
  · rintro i v i0 i1 rfl kk
    have kk' := kk v rfl
    have rs := z_oba_R (d := d) (d' := d') (n := n.toNat) i.toNat (by omega) (by omega)
    refine t_X9_otherBounds_4 hM ⟨fun c => absurd c (by omega), fun _ => ?_⟩
    have e0 : z_oba d d' n.toNat i.toNat = z_oba d d' n.toNat i.toNat + z_ct (fun j => ¬ d i j = d' i j) (0 : Int).toNat := (Int.add_zero _).symm
    rw [e0]
    refine z_for (n := n) (i0 := 0) (fun j u => z_Sem mX9_otherBounds (sh.length, 0) 16 [(0, z_r 161), (1, z_i (z_oba d d' n.toNat i.toNat + z_ct (fun j => ¬ d i j = d' i j) j.toNat)), (2, z_i i), (3, z_i j)] [] (sh, u) _) (fun j u => u = v) (by omega) rfl ?_ ?_
    · rintro u rfl
      rw [z_oba_s i0] at kk'
      exact t_X9_otherBounds_16 hM ⟨fun _ => ⟨⟨by omega, by omega⟩, kk'⟩, fun c => absurd c (by omega)⟩
    · rintro j u j0 j1 rfl k2
      have k2' := k2 u rfl
      have a1 := hd i j ⟨i0, i1⟩ ⟨j0, j1⟩
      have b1 := (hd' i j ⟨i0, i1⟩ ⟨j0, j1⟩).1
      have rc := z_ct_R (p := fun j => ¬ d i j = d' i j) j.toNat
      have ep : f_X9_pair u i j = 10 * i + j := rfl
      have sp : s_X9_pair u i j := ⟨⟨by omega, by omega⟩, ⟨by omega, by omega⟩, True.intro⟩
      refine t_X9_otherBounds_16 hM ⟨fun c => absurd c (by omega), fun _ => ?_⟩
      rw [ep, a1, b1]
      have ed : ((if i = j then (0 : Int) else if d' i j = d i j then 0 else 1) = 1 ∧ ¬ d i j = d' i j) ∨ ((if i = j then (0 : Int) else if d' i j = d i j then 0 else 1) = 0 ∧ ¬ ¬ d i j = d' i j) := by
        by_cases q : i = j
        · have := h0 i ⟨i0, i1⟩
          rw [q] at this
          rw [if_pos q, q]
          exact Or.inr ⟨rfl, fun c => c this⟩
        · rw [if_neg q]
          by_cases q2 : d' i j = d i j
          · rw [if_pos q2]
            exact Or.inr ⟨rfl, fun c => c q2.symm⟩
          · rw [if_neg q2]
            exact Or.inl ⟨rfl, fun c => q2 c.symm⟩
      refine ⟨fun _ => ⟨sp, ⟨by omega, by omega⟩, sp, ⟨by omega, by omega⟩, True.intro⟩, ⟨by omega, by omega⟩, fun y17 e17 => ⟨⟨by omega, by omega⟩, ?_⟩⟩
      have ey : y17 = z_oba d d' n.toNat i.toNat + z_ct (fun j => ¬ d i j = d' i j) (j + 1).toNat := by
        have := z_ct_y (p := fun j => ¬ d i j = d' i j) j0 ed rfl
        omega
      rw [ey]
      exact k2'
theorem z_bw.bo {w : z_Mm} {n : Int} {d : Int → Int → Int} (h : z_bw w n d) (hn : n ≤ 10) {a b : Int} (ha : z_bl n a) (hb : z_bl n b) : f_X9_boundOf w a b = d a b ∧ s_X9_boundOf w a b := by
  obtain ⟨a0, a1⟩ := ha
  obtain ⟨b0, b1⟩ := hb
  exact ⟨(h a b ⟨a0, a1⟩ ⟨b0, b1⟩).1, z_sbo ⟨a0, by omega⟩ ⟨b0, by omega⟩⟩
theorem m_oT {sh : List z_C} {w : z_Mm} {n : Int} {d d' : Int → Int → Int} {K : Int → z_Mm → Prop} (hM : z_isMod sh 161) (hn : 1 ≤ n ∧ n ≤ 10) (h1 : w 163 1 = n) (hd : z_nowb w n d) (hd' : z_bw w n d') (h0 : d 0 0 = d' 0 0)
    (k : K (z_cg d d' n 1) w) : z_CI mX9_otherTimes [z_r 161] sh w K := by
  unfold z_cg at k
  rw [if_neg (by decide), if_pos rfl] at k
  refine z_CIi (t_X9_otherTimes hM ?_)
  have e1 : z_i 0 = z_i (z_ct (z_otp d d') (1 : Int).toNat) := by
    have : z_ct (z_otp d d') 1 = 0 := by
      show z_ct (z_otp d d') 0 + _ = 0
      rw [if_neg (fun c => c ⟨h0, h0⟩)]
      rfl
    rw [show (1 : Int).toNat = 1 from rfl, this]
  rw [e1]
  refine z_for (n := n) (i0 := 1) (fun i v => z_Sem mX9_otherTimes (sh.length, 0) 4 [(0, z_r 161), (1, z_i (z_ct (z_otp d d') i.toNat)), (2, z_i i)] [] (sh, v) _) (fun i v => v = w) (by omega) rfl ?_ ?_
  · rintro v rfl
    exact t_X9_otherTimes_4 hM ⟨fun _ => ⟨_, _, rfl, rfl, k⟩, fun c => absurd c (by omega)⟩
  · rintro i v i0 i1 rfl kk
    have kk' := kk v rfl
    have hi : z_bl n i := ⟨by omega, i1⟩
    have h0' : z_bl n 0 := ⟨by omega, by omega⟩
    obtain ⟨a1, a2⟩ := hd'.bo hn.2 h0' hi
    obtain ⟨b1, b2⟩ := hd'.bo hn.2 hi h0'
    have c1 := hd 0 i h0' hi
    have c2 := hd i 0 hi h0'
    have rc := z_ct_R (p := z_otp d d') i.toNat
    have ep1 : f_X9_pair v 0 i = 10 * 0 + i := rfl
    have ep2 : f_X9_pair v i 0 = 10 * i + 0 := rfl
    have sp1 : s_X9_pair v 0 i := ⟨⟨by omega, by omega⟩, ⟨by omega, by omega⟩, True.intro⟩
    have sp2 : s_X9_pair v i 0 := ⟨⟨by omega, by omega⟩, ⟨by omega, by omega⟩, True.intro⟩
    refine t_X9_otherTimes_4 hM ⟨fun c => absurd c (by omega), fun _ => ?_⟩
    rw [ep1, ep2, a1, b1, c1, c2]
    have ed : ((if d' 0 i = d 0 i then (if d' i 0 = d i 0 then (0 : Int) else 1) else 1) = 1 ∧ z_otp d d' i) ∨ ((if d' 0 i = d 0 i then (if d' i 0 = d i 0 then (0 : Int) else 1) else 1) = 0 ∧ ¬ z_otp d d' i) := by
      unfold z_otp
      (repeat' split) <;> omega
    refine ⟨a2, sp1, ⟨by omega, by omega⟩, fun _ => ⟨b2, sp2, ⟨by omega, by omega⟩, True.intro⟩, ⟨by omega, by omega⟩, fun y18 e18 => ⟨⟨by omega, by omega⟩, ?_⟩⟩
    rw [z_ct_y (p := z_otp d d') (by omega) ed e18]
    exact kk'
theorem m_oR {sh : List z_C} {w : z_Mm} {n : Int} {d d' : Int → Int → Int} {p : Int} {K : Int → z_Mm → Prop} (hM : z_isMod sh 161) (hn : 1 ≤ n ∧ n ≤ 10) (h1 : w 163 1 = n) (hd' : z_bw w n d') (hp : p ≠ 0 ∧ p ≠ 1)
    (k : K (z_cg d d' n p) w) : z_CI mX9_allRoom [z_r 161] sh w K := by
  unfold z_cg at k
  rw [if_neg hp.1, if_neg hp.2] at k
  refine z_CIi (t_X9_allRoom hM ?_)
  refine z_for (n := n) (i0 := 0) (fun i v => z_Sem mX9_allRoom (sh.length, 0) 4 [(0, z_r 161), (1, z_i (z_rsa d' i.toNat)), (2, z_i i)] [] (sh, v) _) (fun i v => v = w) (by omega) rfl ?_ ?_
  · rintro v rfl
    exact t_X9_allRoom_4 hM ⟨fun _ => ⟨_, _, rfl, rfl, k⟩, fun c => absurd c (by omega)⟩
  · rintro i v i0 i1 rfl kk
    have kk' := kk v rfl
    have hi : z_bl n i := ⟨i0, i1⟩
    have h0' : z_bl n 0 := ⟨by omega, by omega⟩
    obtain ⟨a1, a2⟩ := hd'.bo hn.2 h0' hi
    obtain ⟨b1, b2⟩ := hd'.bo hn.2 hi h0'
    have q1 := (hd' i 0 hi h0').2
    have q2 := (hd' 0 i h0' hi).2
    have rs := z_rsa_R hn.1 (fun a b ha hb => (hd' a b ha hb).2) i.toNat (by omega)
    have ev : f_X9_roomOf v i = d' 0 i + d' i 0 := by
      unfold f_X9_roomOf f_X9_latest f_X9_earliest
      rw [a1, b1]
      omega
    have es : s_X9_roomOf v i := by
      refine ⟨⟨a2, True.intro⟩, ⟨b2, ?_, True.intro⟩, ?_, True.intro⟩
      · rw [b1]
        exact ⟨by omega, by omega⟩
      · have : f_X9_latest v i - f_X9_earliest v i = d' 0 i + d' i 0 := ev
        rw [this]
        exact ⟨by omega, by omega⟩
    refine t_X9_allRoom_4 hM ⟨fun c => absurd c (by omega), fun _ => ?_⟩
    rw [ev]
    refine ⟨es, ⟨by omega, by omega⟩, fun y4 e4 => ⟨⟨by omega, by omega⟩, ?_⟩⟩
    rw [z_rsa_s i0] at kk'
    rw [e4]
    exact kk'
/-- the reference keeps its bounds -/
theorem m_keeps {sh : List z_C} {w : z_Mm} {A : z_A} {H : List z_A} {K : z_Mm → Prop} (hM : z_isMod sh 161) (hs : z_ms w A H) (hA : z_okg A) (hb : z_bears A)
    (k : ∀ w', z_ms w' A H → z_ld w' A → z_nowb w' (A 1 0) (z_dd A (-1)) → z_frX w w' → K w') : z_CV mX9_keepsBounds [z_r 161] sh w K := by
  have r1 := hA.2.1
  refine z_CVi (t_X9_keepsBounds hM ?_)
  refine m_laysB hM hA hb hs.1.1 (fun w1 l1 g1 f1 => ?_)
  refine z_for (n := 100) (i0 := 0) (fun i v => z_Sem mX9_keepsBounds (sh.length, 0) 7 [(0, z_r 161), (2, z_i i)] [] (sh, v) _)
    (fun i v => (∀ c : Nat, c ≠ 175 → v c = w1 c) ∧ ∀ j : Int, 0 ≤ j → j < i → v 175 j = w1 172 j) (by omega) ⟨fun _ _ => rfl, fun j j0 j1 => absurd j1 (by omega)⟩ ?_ ?_
  · rintro v ⟨vf, vg⟩
    have s1 := hs.L f1
    refine t_X9_keepsBounds_7 hM ⟨fun _ => ⟨v, rfl, rfl, k v ⟨by rw [vf 163 (by omega)]; exact s1.1, s1.2.fr (by rw [vf 161 (by omega)]) (vf 165 (by omega))⟩ (l1.fr (by rw [vf 161 (by omega)]) (fun c c0 c1 => vf c (by omega))) ?_ ?_⟩, fun c => absurd (Int.le_refl _) c⟩
    · intro a b ha hb'
      have := ha.1
      have := ha.2
      have := hb'.1
      have := hb'.2
      rw [vg _ (by omega) (by omega)]
      exact (z_mbt hA hb l1 ha hb').1
    · exact f1.M.X.trans ⟨fun a ha => vf a (by omega), by rw [vf 161 (by omega)], by rw [vf 161 (by omega)]⟩
  · rintro i v i0 i1 ⟨vf, vg⟩ kk
    refine t_X9_keepsBounds_7 hM ⟨fun c => absurd c (by omega), fun _ => ⟨⟨by omega, by omega⟩, ⟨by omega, by omega⟩, fun w3 e3 => ⟨⟨by omega, by omega⟩, kk w3 ⟨fun c hc => by rw [e3, z_Wf hc, vf c hc], fun j j0 j1 => ?_⟩⟩⟩⟩
    rw [e3]
    by_cases e : j = i
    · subst e; rw [z_W_same, vf 172 (by omega)]
    · rw [z_W_ne (Or.inr e)]; exact vg j j0 (by omega)
noncomputable def z_tth (A B : z_A) (p : Int) : Int := @ite _ (z_bears B) (Classical.propDecidable _) (z_cg (z_dd A (-1)) (z_dd B (-1)) (A 1 0) p) (-5)
theorem z_tth_t {A B : z_A} {p : Int} (h : z_bears B) : z_tth A B p = z_cg (z_dd A (-1)) (z_dd B (-1)) (A 1 0) p := if_pos h
theorem z_tth_f {A B : z_A} {p : Int} (h : ¬ z_bears B) : z_tth A B p = -5 := if_neg h
theorem z_ld.bw {w : z_Mm} {B : z_A} (h : z_ld w B) (hB : z_okg B) (hb : z_bears B) : z_bw w (B 1 0) (z_dd B (-1)) := fun a b ha hb' => ⟨(z_mbt hB hb h ha hb').1, z_dd_R hB hb ha hb'⟩
theorem m_tells {sh : List z_C} {w0 w : z_Mm} {A B : z_A} {H : List z_A} {p : Int} {K : Int → z_Mm → Prop} (hM : z_isMod sh 161) (hA : z_okg A) (hb : z_bears A) (hB : z_okg B) (hm : z_mr (w 163) B) (h4 : z_mr (w 164) A) (hh : z_hm w H) (hd : z_nowb w (A 1 0) (z_dd A (-1))) (hn : B 1 0 = A 1 0) (hf : z_frX w0 w)
    (k : ∀ w', z_ms w' A H → z_frX w0 w' → K (z_tth A B p) w') : z_CI mX9_tellsThen [z_r 161, z_i p] sh w K := by
  have r1 := hA.2.1
  refine z_CIi (t_X9_tellsThen hM ?_)
  have fl : ∀ (v : z_Mm) (x : Int) (K' : Int → z_Mm → Prop), z_frL w v → (∀ w', z_ms w' A H → z_frX w0 w' → K' x w') → z_CI mX9_fails [z_r 161, z_i x] sh v K' := fun v x K' f kk =>
    m_fl (w := v) hM (by rw [f.1 164 (by omega) (by omega)]; exact h4) (hh.fr (f.2 8 (by omega)) (f.1 165 (by omega) (by omega))) hA z_frM.rf (fun w' a b => kk w' a (hf.trans (f.M.X.trans b.X)))
  refine m_lays hM hB hm.1 (fun b w1 q1 q2 f hh1 _ => ?_)
  have m1 : w1 163 1 = A 1 0 := by rw [f.1 163 (by omega) (by omega)]; exact hm.1.2.1.trans hn
  have hd1 : z_nowb w1 (A 1 0) (z_dd A (-1)) := fun a b ha hb' => by rw [f.1 175 (by omega) (by omega)]; exact hd a b ha hb'
  rcases hh1 with ⟨b1, hbB, hdd⟩ | ⟨b1, nb⟩
  · have ld1 : z_ld w1 B := ⟨q1, q2, hdd⟩
    have hbw := ld1.bw hB hbB
    rw [hn] at hbw
    have hz : ∀ a, z_bl (A 1 0) a → z_dd A (-1) a a = z_dd B (-1) a a := fun a ha => by rw [z_D0 (z_isd hA hb (-1)) ha, z_D0 (z_isd hB hbB (-1)) (by rw [hn]; exact ha)]
    rw [z_tth_t hbB] at k
    refine ⟨fun c => absurd (b1 ▸ c) (by omega), fun _ => ⟨fun c => ?_, fun c => ⟨fun c2 => ?_, fun c2 => ?_⟩⟩⟩
    · rw [c] at k
      exact m_oB hM r1 m1 hd1 hbw hz (fl w1 _ _ f (fun w' a b => ⟨_, _, rfl, rfl, k w' a b⟩))
    · rw [c2] at k
      exact m_oT hM r1 m1 hd1 hbw (hz 0 ⟨by omega, by omega⟩) (fl w1 _ _ f (fun w' a b => ⟨_, _, rfl, rfl, k w' a b⟩))
    · exact m_oR hM r1 m1 hbw ⟨c, c2⟩ (fl w1 _ _ f (fun w' a b => ⟨_, _, rfl, rfl, k w' a b⟩))
  · rw [z_tth_f nb] at k
    exact ⟨fun _ => fl w1 _ _ f (fun w' a b => ⟨_, _, rfl, rfl, k w' a b⟩), fun c => absurd b1 c⟩
