/-! SHIFTS AND MASKS -/
theorem z_sh32 : ∀ k : Nat, k < 32 → ((Int32.ofInt (k : Int) &&& 31).toBitVec.smod 32#32).toNat = k := by decide +kernel
theorem z_shr_eq {x : Int} {k : Nat} (hx : z_R x) (hk : k < 32) : z_shr x (k : Int) = x / 2 ^ k := by
  have h : z_shr x (k : Int) = ((Int32.ofInt x).toBitVec.sshiftRight' ((Int32.ofInt (k : Int) &&& 31).toBitVec.smod 32#32)).toInt := rfl
  rw [h, BitVec.toInt_sshiftRight', z_sh32 k hk, Int.shiftRight_eq_div_pow]
  show (Int32.ofInt x).toInt / _ = _
  rw [z_toInt hx]
  norm_cast
theorem z_toNat {x : Int} (hx : z_R x) : x = if 2 * (Int32.ofInt x).toBitVec.toNat < 2 ^ 32 then ((Int32.ofInt x).toBitVec.toNat : Int) else ((Int32.ofInt x).toBitVec.toNat : Int) - (2 ^ 32 : Nat) := by
  have h := BitVec.toInt_eq_toNat_cond (Int32.ofInt x).toBitVec
  rw [← h]
  exact (z_toInt hx).symm
theorem z_and31 {x : Int} (hx : z_R x) : z_and x 31 = x % 32 := by
  have h : z_and x 31 = ((Int32.ofInt x).toBitVec &&& (Int32.ofInt 31).toBitVec).toInt := rfl
  have hm : (Int32.ofInt 31).toBitVec.toNat = 2 ^ 5 - 1 := by decide
  have h2 : ((Int32.ofInt x).toBitVec &&& (Int32.ofInt 31).toBitVec).toNat = (Int32.ofInt x).toBitVec.toNat % 2 ^ 5 := by rw [BitVec.toNat_and, hm, Nat.and_two_pow_sub_one_eq_mod]
  have hN := z_toNat hx
  rw [h, BitVec.toInt_eq_toNat_cond, h2]
  generalize (Int32.ofInt x).toBitVec.toNat = N at hN
  split at hN <;> (rw [if_pos (by omega)]; omega)
theorem z_and255 {x : Int} (hx : z_R x) : z_and x 255 = x % 256 := by
  have h : z_and x 255 = ((Int32.ofInt x).toBitVec &&& (Int32.ofInt 255).toBitVec).toInt := rfl
  have hm : (Int32.ofInt 255).toBitVec.toNat = 2 ^ 8 - 1 := by decide
  have h2 : ((Int32.ofInt x).toBitVec &&& (Int32.ofInt 255).toBitVec).toNat = (Int32.ofInt x).toBitVec.toNat % 2 ^ 8 := by rw [BitVec.toNat_and, hm, Nat.and_two_pow_sub_one_eq_mod]
  have hN := z_toNat hx
  rw [h, BitVec.toInt_eq_toNat_cond, h2]
  generalize (Int32.ofInt x).toBitVec.toNat = N at hN
  split at hN <;> (rw [if_pos (by omega)]; omega)
theorem z_ush32 : ∀ k : Nat, k < 32 → (((Int32.ofInt (k : Int)).toUInt32 &&& Int32.toUInt32 31).toNat % 32) = k := by decide +kernel
theorem z_ushr_eq {x : Int} {k : Nat} (hx : z_R x) (hk : k < 32) : z_R (z_ushr x (k : Int)) ∧ z_ushr x (k : Int) = if 2 * ((Int32.ofInt x).toBitVec.toNat / 2 ^ k) < 2 ^ 32 then (((Int32.ofInt x).toBitVec.toNat / 2 ^ k : Nat) : Int) else (((Int32.ofInt x).toBitVec.toNat / 2 ^ k : Nat) : Int) - (2 ^ 32 : Nat) := by
  have h : z_ushr x (k : Int) = ((Int32.ofInt x).toUInt32 >>> ((Int32.ofInt (k : Int)).toUInt32 &&& Int32.toUInt32 31)).toBitVec.toInt := rfl
  have h2 : ((Int32.ofInt x).toUInt32 >>> ((Int32.ofInt (k : Int)).toUInt32 &&& Int32.toUInt32 31)).toBitVec.toNat = (Int32.ofInt x).toBitVec.toNat / 2 ^ k := by
    show ((Int32.ofInt x).toUInt32 >>> ((Int32.ofInt (k : Int)).toUInt32 &&& Int32.toUInt32 31)).toNat = _
    rw [UInt32.toNat_shiftRight, z_ush32 k hk, Nat.shiftRight_eq_div_pow]
    rfl
  rw [h, BitVec.toInt_eq_toNat_cond, h2]
  refine ⟨?_, rfl⟩
  have hl : (Int32.ofInt x).toBitVec.toNat < 2 ^ 32 := (Int32.ofInt x).toBitVec.isLt
  have hd : (Int32.ofInt x).toBitVec.toNat / 2 ^ k ≤ (Int32.ofInt x).toBitVec.toNat := Nat.div_le_self _ _
  split <;> exact ⟨by omega, by omega⟩
theorem z_by24 {x : Int} (hx : z_R x) : z_and (z_ushr x 24) 255 = x / 16777216 % 256 := by
  obtain ⟨h1, h2⟩ := z_ushr_eq (k := 24) hx (by omega)
  have e : z_and (z_ushr x 24) 255 = z_ushr x 24 % 256 := z_and255 h1
  have h2' : z_ushr x 24 = _ := h2
  have hN := z_toNat hx
  have hl : (Int32.ofInt x).toBitVec.toNat < 2 ^ 32 := (Int32.ofInt x).toBitVec.isLt
  rw [e, h2']
  generalize (Int32.ofInt x).toBitVec.toNat = N at hN hl
  split at hN <;> split <;> omega
theorem z_by16 {x : Int} (hx : z_R x) : z_and (z_ushr x 16) 255 = x / 65536 % 256 := by
  obtain ⟨h1, h2⟩ := z_ushr_eq (k := 16) hx (by omega)
  have e : z_and (z_ushr x 16) 255 = z_ushr x 16 % 256 := z_and255 h1
  have h2' : z_ushr x 16 = _ := h2
  have hN := z_toNat hx
  have hl : (Int32.ofInt x).toBitVec.toNat < 2 ^ 32 := (Int32.ofInt x).toBitVec.isLt
  rw [e, h2']
  generalize (Int32.ofInt x).toBitVec.toNat = N at hN hl
  split at hN <;> split <;> omega
theorem z_by8 {x : Int} (hx : z_R x) : z_and (z_ushr x 8) 255 = x / 256 % 256 := by
  obtain ⟨h1, h2⟩ := z_ushr_eq (k := 8) hx (by omega)
  have e : z_and (z_ushr x 8) 255 = z_ushr x 8 % 256 := z_and255 h1
  have h2' : z_ushr x 8 = _ := h2
  have hN := z_toNat hx
  have hl : (Int32.ofInt x).toBitVec.toNat < 2 ^ 32 := (Int32.ofInt x).toBitVec.isLt
  rw [e, h2']
  generalize (Int32.ofInt x).toBitVec.toNat = N at hN hl
  split at hN <;> split <;> omega
theorem z_by0 {x : Int} (hx : z_R x) : z_and (z_ushr x 0) 255 = x % 256 := by
  obtain ⟨h1, h2⟩ := z_ushr_eq (k := 0) hx (by omega)
  have e : z_and (z_ushr x 0) 255 = z_ushr x 0 % 256 := z_and255 h1
  have h2' : z_ushr x 0 = _ := h2
  have hN := z_toNat hx
  have hl : (Int32.ofInt x).toBitVec.toNat < 2 ^ 32 := (Int32.ofInt x).toBitVec.isLt
  rw [e, h2']
  generalize (Int32.ofInt x).toBitVec.toNat = N at hN hl
  split at hN <;> split <;> omega
/-- a byte with its sign -/
def z_sg (b : Int) : Int := if b < 128 then b else b - 256
theorem z_i2b_eq {x : Int} (hx : z_R x) : z_i2bv x = z_sg (x % 256) := by
  have h : z_i2bv x = (Int32.ofInt x).toInt8.toInt := Int8.toInt_toInt32 _
  rw [h, Int32.toInt_toInt8, z_toInt hx]
  unfold z_sg
  rw [Int.bmod_def]
  split <;> split <;> omega
theorem z_sh_24 {x : Int} (hx : z_R x) : z_shr x 24 = x / 16777216 := by
  have h := z_shr_eq (k := 24) hx (by omega)
  rw [show (2 : Int) ^ 24 = 16777216 by decide] at h
  exact h
theorem z_sh_16 {x : Int} (hx : z_R x) : z_shr x 16 = x / 65536 := by
  have h := z_shr_eq (k := 16) hx (by omega)
  rw [show (2 : Int) ^ 16 = 65536 by decide] at h
  exact h
theorem z_sh_8 {x : Int} (hx : z_R x) : z_shr x 8 = x / 256 := by
  have h := z_shr_eq (k := 8) hx (by omega)
  rw [show (2 : Int) ^ 8 = 256 by decide] at h
  exact h
theorem z_sh_5 {x : Int} (hx : z_R x) : z_shr x 5 = x / 32 := by
  have h := z_shr_eq (k := 5) hx (by omega)
  rw [show (2 : Int) ^ 5 = 32 by decide] at h
  exact h
theorem z_sh_0 {x : Int} (hx : z_R x) : z_shr x 0 = x := by
  have h := z_shr_eq (k := 0) hx (by omega)
  rw [show (2 : Int) ^ 0 = 1 by decide, Int.ediv_one] at h
  exact h
theorem z_sh_10 {x : Int} (hx : z_R x) : z_shr x 10 = x / 1024 := by
  have h := z_shr_eq (k := 10) hx (by omega)
  rw [show (2 : Int) ^ 10 = 1024 by decide] at h
  exact h
theorem z_sh_15 {x : Int} (hx : z_R x) : z_shr x 15 = x / 32768 := by
  have h := z_shr_eq (k := 15) hx (by omega)
  rw [show (2 : Int) ^ 15 = 32768 by decide] at h
  exact h
theorem z_sh_20 {x : Int} (hx : z_R x) : z_shr x 20 = x / 1048576 := by
  have h := z_shr_eq (k := 20) hx (by omega)
  rw [show (2 : Int) ^ 20 = 1048576 by decide] at h
  exact h
theorem z_i2b_i {x : Int} (hx : z_R x) : z_i2bv (z_i2bv x) = z_i2bv x := by
  have h := z_i2b_eq hx
  have h1 : z_R (z_sg (x % 256)) := by
    unfold z_sg
    split <;> exact ⟨by omega, by omega⟩
  rw [h, z_i2b_eq h1]
  unfold z_sg
  split <;> split <;> omega
/-! WORDS -/
theorem z_wx1 (f : Int → Int) : z_word f 1 = f 0 - 96 := by
  show 32 * 0 + (f 0 - 96) = _
  omega
theorem z_wx2 (f : Int → Int) : z_word f 2 = 32 * (f 0 - 96) + (f 1 - 96) := by
  show 32 * z_word f 1 + (f 1 - 96) = _
  rw [z_wx1]
theorem z_wx3 (f : Int → Int) : z_word f 3 = 1024 * (f 0 - 96) + 32 * (f 1 - 96) + (f 2 - 96) := by
  show 32 * z_word f 2 + (f 2 - 96) = _
  rw [z_wx2]
  omega
theorem z_wx4 (f : Int → Int) : z_word f 4 = 32768 * (f 0 - 96) + 1024 * (f 1 - 96) + 32 * (f 2 - 96) + (f 3 - 96) := by
  show 32 * z_word f 3 + (f 3 - 96) = _
  rw [z_wx3]
  omega
theorem z_wx5 (f : Int → Int) : z_word f 5 = 1048576 * (f 0 - 96) + 32768 * (f 1 - 96) + 1024 * (f 2 - 96) + 32 * (f 3 - 96) + (f 4 - 96) := by
  show 32 * z_word f 4 + (f 4 - 96) = _
  rw [z_wx4]
  omega
/-- how many letters, and the letters -/
def z_lco (v : Int) : Int := if v < 32 then 1 else if v < 1024 then 2 else if v < 32768 then 3 else if v < 1048576 then 4 else 5
def z_lof (v k : Int) : Int := (if k = 0 then v else if k = 1 then v / 32 else if k = 2 then v / 1024 else if k = 3 then v / 32768 else v / 1048576) % 32
theorem z_wdl {f : Int → Int} {c : Nat} (c1 : 1 ≤ c) (c5 : c ≤ 5) (hf : ∀ i : Int, 0 ≤ i → i < c → 97 ≤ f i ∧ f i ≤ 122) : (1 ≤ z_word f c ∧ z_word f c < 33554432) ∧ z_lco (z_word f c) = c ∧ ∀ i : Int, 0 ≤ i → i < c → z_lof (z_word f c) ((c : Int) - 1 - i) = f i - 96 := by
  have hc : c = 1 ∨ c = 2 ∨ c = 3 ∨ c = 4 ∨ c = 5 := by omega
  rcases hc with rfl | rfl | rfl | rfl | rfl
  · have h0 := hf 0 (by omega) (by omega)
    rw [z_wx1]
    refine ⟨⟨by omega, by omega⟩, ?_, fun i i0 i1 => ?_⟩
    · unfold z_lco; (repeat' split) <;> omega
    · have : i = 0 := by omega
      subst this
      show (f 0 - 96) % 32 = _
      omega
  · have h0 := hf 0 (by omega) (by omega)
    have h1 := hf 1 (by omega) (by omega)
    rw [z_wx2]
    refine ⟨⟨by omega, by omega⟩, ?_, fun i i0 i1 => ?_⟩
    · unfold z_lco; (repeat' split) <;> omega
    · have : i = 0 ∨ i = 1 := by omega
      rcases this with rfl | rfl
      · show (_ / 32) % 32 = _
        omega
      · show _ % 32 = _
        omega
  · have h0 := hf 0 (by omega) (by omega)
    have h1 := hf 1 (by omega) (by omega)
    have h2 := hf 2 (by omega) (by omega)
    rw [z_wx3]
    refine ⟨⟨by omega, by omega⟩, ?_, fun i i0 i1 => ?_⟩
    · unfold z_lco; (repeat' split) <;> omega
    · have : i = 0 ∨ i = 1 ∨ i = 2 := by omega
      rcases this with rfl | rfl | rfl
      · show (_ / 1024) % 32 = _
        omega
      · show (_ / 32) % 32 = _
        omega
      · show _ % 32 = _
        omega
  · have h0 := hf 0 (by omega) (by omega)
    have h1 := hf 1 (by omega) (by omega)
    have h2 := hf 2 (by omega) (by omega)
    have h3 := hf 3 (by omega) (by omega)
    rw [z_wx4]
    refine ⟨⟨by omega, by omega⟩, ?_, fun i i0 i1 => ?_⟩
    · unfold z_lco; (repeat' split) <;> omega
    · have : i = 0 ∨ i = 1 ∨ i = 2 ∨ i = 3 := by omega
      rcases this with rfl | rfl | rfl | rfl
      · show (_ / 32768) % 32 = _
        omega
      · show (_ / 1024) % 32 = _
        omega
      · show (_ / 32) % 32 = _
        omega
      · show _ % 32 = _
        omega
  · have h0 := hf 0 (by omega) (by omega)
    have h1 := hf 1 (by omega) (by omega)
    have h2 := hf 2 (by omega) (by omega)
    have h3 := hf 3 (by omega) (by omega)
    have h4 := hf 4 (by omega) (by omega)
    rw [z_wx5]
    refine ⟨⟨by omega, by omega⟩, ?_, fun i i0 i1 => ?_⟩
    · unfold z_lco; (repeat' split) <;> omega
    · have : i = 0 ∨ i = 1 ∨ i = 2 ∨ i = 3 ∨ i = 4 := by omega
      rcases this with rfl | rfl | rfl | rfl | rfl
      · show (_ / 1048576) % 32 = _
        omega
      · show (_ / 32768) % 32 = _
        omega
      · show (_ / 1024) % 32 = _
        omega
      · show (_ / 32) % 32 = _
        omega
      · show _ % 32 = _
        omega
theorem z_vw.R {v : Int} (h : z_vw v) : 1 ≤ v ∧ v < 33554432 := by
  obtain ⟨c, f, c1, c5, hf, e⟩ := h
  rw [e]
  exact (z_wdl c1 c5 hf).1
theorem z_lco_R (v : Int) : 1 ≤ z_lco v ∧ z_lco v ≤ 5 := by
  unfold z_lco
  (repeat' split) <;> omega
/-- LETTER -/
def z_qle (A : z_A) (e i : Int) : Int := if 0 ≤ e ∧ e < A 1 0 then (if 0 ≤ i then (if i < z_lco (A 9 e) then z_lof (A 9 e) (z_lco (A 9 e) - 1 - i) else -2) else -1) else -1
theorem z_nm.wd {w : z_Mm} {P : Nat} {e v : Int} (h : z_nm w P e v) : (1 ≤ v ∧ v < 33554432) ∧ w (P + 2) e = z_lco v ∧ ∀ i : Int, 0 ≤ i → i < z_lco v → w (P + 1) (e * 5 + i) = z_lof v (z_lco v - 1 - i) + 96 ∧ 97 ≤ w (P + 1) (e * 5 + i) ∧ w (P + 1) (e * 5 + i) ≤ 122 := by
  obtain ⟨c, c1, c5, h1, h2, h3⟩ := h
  obtain ⟨q1, q2, q3⟩ := z_wdl c1 c5 h2
  rw [← h3] at q1 q2 q3
  refine ⟨q1, by rw [h1, q2], fun i i0 i1 => ?_⟩
  rw [q2] at i1 ⊢
  have := q3 i i0 i1
  have := h2 i i0 i1
  exact ⟨by omega, by omega, by omega⟩
theorem c_letter {sh : List z_C} {w : z_Mm} {A : z_A} {H : List z_A} {e i : Int} {K : Int → z_Mm → Prop} (hT : z_isTG sh 0) (hs : z_cs w A H) (k : K (z_qle A e i) w) : z_CI mX8_letter [z_r 0, z_i e, z_i i] sh w K := by
  obtain ⟨hA, hp, hn, -, -⟩ := hs
  have r1 := hA.1.2.1
  have p10 : w 1 10 = A 1 0 := hp.1.2.1
  have h1 := z_fev (w := w) (e := e)
  rw [p10] at h1
  by_cases c : f_X8_isEvent w e = 0
  · have ef : f_X8_letter w e i = z_qle A e i := by
      unfold f_X8_letter z_qle
      rw [if_pos c, if_neg (h1.mp c)]
    exact z_CIi (t_X8_letter hT ⟨fun q => absurd c q, True.intro⟩ ⟨_, _, rfl, rfl, by rw [ef]; exact k⟩)
  · have d : 0 ≤ e ∧ e < A 1 0 := Classical.byContradiction fun q => c (h1.mpr q)
    obtain ⟨q1, q2, q3⟩ := (hp.2.1 e d.1 d.2).wd
    have q2' : w 3 e = z_lco (A 9 e) := q2
    have rl := z_lco_R (A 9 e)
    have ef : f_X8_letter w e i = z_qle A e i := by
      unfold f_X8_letter z_qle
      rw [if_neg c, if_pos d]
      by_cases c2 : 0 ≤ i
      · rw [if_pos c2, if_pos c2, q2']
        by_cases c3 : i < z_lco (A 9 e)
        · rw [if_pos c3, if_pos c3]
          have := (q3 i c2 c3).1
          unfold f_X3_letterOf
          omega
        · rw [if_neg c3, if_neg c3]
      · rw [if_neg c2, if_neg c2]
    refine z_CIi (t_X8_letter hT ⟨fun _ => ⟨fun c2 => ⟨⟨by omega, by omega⟩, fun c3 => ?_, True.intro⟩, True.intro⟩, True.intro⟩ ⟨_, _, rfl, rfl, by rw [ef]; exact k⟩)
    rw [q2'] at c3
    have q := q3 i c2 c3
    have q' : 97 ≤ f_X3_letterOf w 1 e i ∧ f_X3_letterOf w 1 e i ≤ 122 := q.2
    exact ⟨⟨⟨by omega, by omega⟩, ⟨by omega, by omega⟩, ⟨by omega, by omega⟩, True.intro⟩, ⟨by omega, by omega⟩, ⟨by omega, by omega⟩, True.intro⟩
