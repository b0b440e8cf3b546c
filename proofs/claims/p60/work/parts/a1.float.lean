/-! RATES -/
theorem z_nf : ∀ t : Nat, t < 25 → ∀ n : Nat, n < 25 → n = 0 ∨ (vf_n32 (FP.fdiv (FP.i2f (Int32.ofInt (t : Int))) (FP.i2f (Int32.ofInt (n : Int)))) ∧ vf_n64 (FP.f2d (FP.fdiv (FP.i2f (Int32.ofInt (t : Int))) (FP.i2f (Int32.ofInt (n : Int)))))) := by
  unfold vf_n32 vf_n64
  decide +kernel
theorem z_nf0 : vf_n64 (FP.f2d FP.fconst0) := by
  unfold vf_n64
  decide +kernel
/-- an encoding that is no NaN -/
def z_nn (n : Nat) : Prop := n < 18446744073709551616 ∧ n % 9223372036854775808 ≤ 9218868437227405312
theorem z_nn_asm {s : Bool} {e t : Nat} (h : (e ≤ 2046 ∧ t < 4503599627370496) ∨ (e = 2047 ∧ t = 0)) : z_nn (FP.Core.assemble FP.Core.b64 s e t) := by
  have e1 : FP.Core.b64.exps = 2048 := by decide
  have e2 : FP.Core.b64.tails = 4503599627370496 := by decide
  have hs : s.toNat ≤ 1 := by cases s <;> decide
  unfold z_nn FP.Core.assemble
  rw [e1, e2]
  omega
theorem z_nn_bound {s : Bool} {c : Nat} {q : Int} (hc : c < 9007199254740992) : z_nn (FP.Core.encode FP.Core.b64 (FP.Core.bound FP.Core.b64 s c q)) := by
  have e1 : FP.Core.b64.exps = 2048 := by decide
  have e2 : FP.Core.b64.tails = 4503599627370496 := by decide
  have e3 : FP.Core.b64.qmax = 971 := by decide
  have e4 : FP.Core.b64.qmin = -1074 := by decide
  unfold FP.Core.bound
  rw [e3]
  split
  · unfold FP.Core.encode
    simp only
    rw [e2, e4]
    split
    · exact z_nn_asm (Or.inl ⟨by omega, by omega⟩)
    · exact z_nn_asm (Or.inl ⟨by omega, by omega⟩)
  · unfold FP.Core.encode
    simp only
    rw [e1]
    exact z_nn_asm (Or.inr ⟨rfl, rfl⟩)
theorem z_nn_ratio {s : Bool} {a b : Nat} {e : Int} : z_nn (FP.Core.encode FP.Core.b64 (FP.Core.roundRatio FP.Core.b64 s a b e)) := by
  unfold FP.Core.roundRatio
  split
  · have := z_nn_bound (s := s) (c := 0) (q := FP.Core.b64.qmin) (by omega)
    unfold FP.Core.bound at this
    rw [if_pos (by decide)] at this
    exact this
  · unfold FP.Core.roundAt FP.Core.settle
    have ep : 2 ^ FP.Core.b64.p = 9007199254740992 := by decide
    rw [ep]
    split
    · rename_i h
      exact z_nn_bound h
    · exact z_nn_bound (by decide)
theorem z_nn_dec {n : Nat} (h : z_nn n) : FP.Core.decode FP.Core.b64 n ≠ .nan := by
  have e1 : FP.Core.b64.exps = 2048 := by decide
  have e2 : FP.Core.b64.tails = 4503599627370496 := by decide
  unfold FP.Core.decode FP.Core.fieldE FP.Core.fieldT
  rw [e1, e2]
  obtain ⟨h1, h2⟩ := h
  split
  · split
    · intro c; cases c
    · omega
  · split <;> (intro c; cases c)
theorem z_nn_64 {n : Nat} (h : z_nn n) : vf_n64 (UInt64.ofNat n) ∧ (UInt64.ofNat n).toNat = n := by
  have e : (UInt64.ofNat n).toNat = n := by
    rw [UInt64.toNat_ofNat']
    exact Nat.mod_eq_of_lt h.1
  refine ⟨?_, e⟩
  unfold vf_n64
  rw [UInt64.le_iff_toNat_le, UInt64.toNat_and, e, show (0x7fffffffffffffff : UInt64).toNat = 2 ^ 63 - 1 by decide, Nat.and_two_pow_sub_one_eq_mod, show (0x7ff0000000000000 : UInt64).toNat = 9218868437227405312 by decide]
  exact h.2
theorem z_n64_nn {x : UInt64} (h : vf_n64 x) : z_nn x.toNat := by
  unfold vf_n64 at h
  rw [UInt64.le_iff_toNat_le, UInt64.toNat_and, show (0x7fffffffffffffff : UInt64).toNat = 2 ^ 63 - 1 by decide, Nat.and_two_pow_sub_one_eq_mod, show (0x7ff0000000000000 : UInt64).toNat = 9218868437227405312 by decide] at h
  exact ⟨x.toNat_lt, h⟩
theorem z_dec10 : ∀ b : Nat, b < 11 → b = 0 ∨ ∃ (s : Bool) (c : Nat) (q : Int), FP.Core.decode FP.Core.b64 (FP.i2d (Int32.ofInt (b : Int))).toNat = .fin s c q ∧ c ≠ 0 := by
  intro b hb
  have h : ∀ b : Nat, b < 11 → b = 0 ∨ (match FP.Core.decode FP.Core.b64 (FP.i2d (Int32.ofInt (b : Int))).toNat with | .fin _ c _ => c != 0 | _ => false) = true := by decide +kernel
  rcases h b hb with h | h
  · exact Or.inl h
  · refine Or.inr ?_
    generalize FP.Core.decode FP.Core.b64 (FP.i2d (Int32.ofInt (b : Int))).toNat = d at h
    cases d with
    | nan => cases h
    | inf s => cases h
    | fin s c q => exact ⟨s, c, q, rfl, bne_iff_ne.mp h⟩
theorem z_n64_div (x : Int32) {b : Int} (hb : 1 ≤ b ∧ b ≤ 10) : vf_n64 (FP.ddiv (FP.i2d x) (FP.i2d (Int32.ofInt b))) := by
  have hx : z_nn (FP.Core.fromInt FP.Core.b64 x.toInt) := z_nn_ratio
  obtain ⟨-, ex⟩ := z_nn_64 hx
  have nx := z_nn_dec hx
  rcases z_dec10 b.toNat (by omega) with h0 | ⟨t, d, r, hy, hd⟩
  · omega
  rw [show ((b.toNat : Nat) : Int) = b by omega] at hy
  have key : z_nn (FP.Core.div FP.Core.b64 (FP.i2d x).toNat (FP.i2d (Int32.ofInt b)).toNat) := by
    unfold FP.Core.div
    rw [hy, show (FP.i2d x).toNat = FP.Core.fromInt FP.Core.b64 x.toInt from ex]
    generalize FP.Core.decode FP.Core.b64 (FP.Core.fromInt FP.Core.b64 x.toInt) = D at nx
    cases D with
    | nan => exact absurd rfl nx
    | inf s =>
      show z_nn (FP.Core.assemble FP.Core.b64 (s != t) (FP.Core.b64.exps - 1) 0)
      exact z_nn_asm (Or.inr ⟨by decide, rfl⟩)
    | fin s c q =>
      unfold FP.Core.quotient
      simp only
      rw [if_neg hd]
      exact z_nn_ratio
  exact (z_nn_64 key).1
theorem z_dcc {x : UInt64} (h : vf_n64 x) : FP.dcmp x x = some .eq := by
  have hn := z_nn_dec (z_n64_nn h)
  have e : FP.dcmp x x = FP.Core.order (FP.Core.decode FP.Core.b64 x.toNat) (FP.Core.decode FP.Core.b64 x.toNat) := rfl
  rw [e]
  generalize FP.Core.decode FP.Core.b64 x.toNat = D at hn
  cases D with
  | nan => exact absurd rfl hn
  | inf s =>
    show some (compare (FP.Core.signed s 1) (FP.Core.signed s 1)) = _
    rw [Int.compare_eq_eq.mpr rfl]
  | fin s c q =>
    show some (compare _ _) = _
    rw [Int.compare_eq_eq.mpr rfl]
/-! TIGHTSHARE and MEANROOM, in a form for answers that are no ints -/
/-! TIGHTSHARE and MEANROOM -/
def z_CF (M' : z_M) (vs : List z_V) (sh : List z_C) (w : z_Mm) (K : UInt32 → z_Mm → Prop) : Prop := z_Sem M' (sh.length, 0) 0 (z_la 0 vs) [] (sh, w) (fun r σ => ∃ (x : UInt32) (w' : z_Mm), r = some (z_f x) ∧ σ = (sh, w') ∧ K x w')
def z_CD (M' : z_M) (vs : List z_V) (sh : List z_C) (w : z_Mm) (K : UInt64 → z_Mm → Prop) : Prop := z_Sem M' (sh.length, 0) 0 (z_la 0 vs) [] (sh, w) (fun r σ => ∃ (x : UInt64) (w' : z_Mm), r = some (z_d x) ∧ σ = (sh, w') ∧ K x w')
theorem z_CFi {M' : z_M} {vs : List z_V} {sh : List z_C} {w : z_Mm} {K : UInt32 → z_Mm → Prop} (h : z_Sem M' (sh.length, 0) 0 (z_la 0 vs) [] (sh, w) (fun r σ => ∃ (x : UInt32) (w' : z_Mm), r = some (z_f x) ∧ σ = (sh, w') ∧ K x w')) : z_CF M' vs sh w K := h
theorem z_CDi {M' : z_M} {vs : List z_V} {sh : List z_C} {w : z_Mm} {K : UInt64 → z_Mm → Prop} (h : z_Sem M' (sh.length, 0) 0 (z_la 0 vs) [] (sh, w) (fun r σ => ∃ (x : UInt64) (w' : z_Mm), r = some (z_d x) ∧ σ = (sh, w') ∧ K x w')) : z_CD M' vs sh w K := h
noncomputable def z_tsv (A : z_A) : UInt32 := if z_ct (z_onp A) (A 2 0).toNat = 0 then FP.fconst0 else FP.fdiv (FP.i2f (Int32.ofInt (z_ct (z_tg A) (A 2 0).toNat))) (FP.i2f (Int32.ofInt (z_ct (z_onp A) (A 2 0).toNat)))
theorem z_tsn {A : z_A} (hA : z_okg A) (h : ¬ z_ct (z_onp A) (A 2 0).toNat = 0) : vf_n32 (FP.fdiv (FP.i2f (Int32.ofInt (z_ct (z_tg A) (A 2 0).toNat))) (FP.i2f (Int32.ofInt (z_ct (z_onp A) (A 2 0).toNat)))) ∧ vf_n64 (FP.f2d (FP.fdiv (FP.i2f (Int32.ofInt (z_ct (z_tg A) (A 2 0).toNat))) (FP.i2f (Int32.ofInt (z_ct (z_onp A) (A 2 0).toNat))))) := by
  have r2 := hA.2.2.1
  have h1 := z_ct_R (p := z_tg A) (A 2 0).toNat
  have h2 := z_ct_R (p := z_onp A) (A 2 0).toNat
  rcases z_nf (z_ct (z_tg A) (A 2 0).toNat).toNat (by omega) (z_ct (z_onp A) (A 2 0).toNat).toNat (by omega) with q | q
  · omega
  · rw [show (((z_ct (z_tg A) (A 2 0).toNat).toNat : Nat) : Int) = z_ct (z_tg A) (A 2 0).toNat by omega, show (((z_ct (z_onp A) (A 2 0).toNat).toNat : Nat) : Int) = z_ct (z_onp A) (A 2 0).toNat by omega] at q
    exact q
theorem z_tsv_n {A : z_A} (hA : z_okg A) : vf_n64 (FP.f2d (z_tsv A)) := by
  unfold z_tsv
  split
  · exact z_nf0
  · rename_i h
    exact (z_tsn hA h).2
theorem c_tightShare {sh : List z_C} {w : z_Mm} {A : z_A} {H : List z_A} {K : UInt32 → z_Mm → Prop} (hT : z_isTG sh 0) (hs : z_cs w A H) (k : K (z_tsv A) w) : z_CF mX8_tightShare [z_r 0] sh w K := by
  obtain ⟨hA, hp, hn, -, -⟩ := hs
  unfold z_tsv at k
  refine z_CFi (t_X8_tightShare hT (c_countOn hT hA.1 hp.1 ⟨fun c => ?_, fun c => ?_⟩))
  · rw [if_pos c] at k
    exact ⟨_, _, rfl, rfl, k⟩
  · rw [if_neg c] at k
    exact c_countTight hT hA.1 hA.2.1 hp.1 (hn.nb hA.1 hA.2.1) ⟨(z_tsn hA.1 c).1, _, _, rfl, rfl, k⟩
noncomputable def z_mrm (A : z_A) : UInt64 := FP.ddiv (FP.i2d (Int32.ofInt (z_ro A (A 1 0).toNat))) (FP.i2d (Int32.ofInt (A 1 0)))
theorem c_meanRoom {sh : List z_C} {w : z_Mm} {A : z_A} {H : List z_A} {K : UInt64 → z_Mm → Prop} (hT : z_isTG sh 0) (hs : z_cs w A H) (k : K (z_mrm A) w) : z_CD mX8_meanRoom [z_r 0] sh w K := by
  obtain ⟨hA, hp, hn, -, -⟩ := hs
  have p10 : w 1 10 = A 1 0 := hp.1.2.1
  have r1 := hA.1.2.1
  refine z_CDi (t_X8_meanRoom hT ⟨fun c => absurd c (by omega), fun _ => c_room hT hA.1 hA.2.1 (hn.nb hA.1 hA.2.1) ?_⟩)
  rw [p10]
  exact ⟨z_n64_div _ r1, _, _, rfl, rfl, k⟩
