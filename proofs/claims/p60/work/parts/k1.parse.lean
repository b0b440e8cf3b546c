/-! A CURSOR: what the tape holds from the next token on -/
def z_kur (T : z_T) (τ : z_K4) (L : List Int) : Prop := ∃ p : Int, z_tl0 T p L ∧ τ = z_tok T p
section ZCT
variable {T : z_T} {τ : z_K4} {L : List Int} {v n y : Int}
/-- the letters of a name -/
theorem z_nlp_at {v : Int} : ∀ (k i : Nat), i < k → (z_nlp v k)[i]? = some (z_lof v (z_lco v - 1 - (i : Int)) + 96)
  | 0, i, h => absurd h (by omega)
  | k + 1, i, h => by
    rw [z_nlp]
    by_cases c : i < k
    · rw [List.getElem?_append_left (by rw [z_nlp_len]; exact c)]
      exact z_nlp_at k i c
    · have : i = k := by omega
      subst this
      rw [List.getElem?_append_right (by rw [z_nlp_len]; exact Nat.le_refl _), z_nlp_len, Nat.sub_self]
      rfl
theorem z_nl_vw (h : z_vw v) : (1 ≤ (z_nl v).length ∧ (z_nl v).length ≤ 5) ∧ (∀ x ∈ z_nl v, 97 ≤ x ∧ x ≤ 122) ∧ ∀ f : Int → Int, (∀ (i : Nat) (x : Int), (z_nl v)[i]? = some x → f i = x) → z_word f (z_nl v).length = v := by
  obtain ⟨c, f, c1, c5, hf, e⟩ := h
  obtain ⟨-, w2, w3⟩ := z_wdl c1 c5 hf
  rw [← e] at w2 w3
  have hl : (z_nl v).length = c := by have := (z_nl_len v).1; omega
  have hat : ∀ i : Nat, i < c → (z_nl v)[i]? = some (f (i : Int)) := fun i hi => by
    have h1 := z_nlp_at (v := v) (z_lco v).toNat i (by omega)
    have h2 := w3 (i : Int) (by omega) (by omega)
    rw [w2, h2] at h1
    show (z_nlp v (z_lco v).toNat)[i]? = _
    rw [w2, h1]
    exact congrArg some (by omega)
  refine ⟨⟨by omega, by omega⟩, fun x hx => ?_, fun g hg => ?_⟩
  · obtain ⟨i, hi, ex⟩ := List.getElem_of_mem hx
    have := hat i (by omega)
    rw [List.getElem?_eq_getElem hi] at this
    injection this with this
    rw [← ex, this]
    exact hf _ (by omega) (by omega)
  · rw [hl, e]
    refine z_word_congr (fun i i0 i1 => ?_)
    have := hg i.toNat _ (hat i.toNat (by omega))
    rw [show ((i.toNat : Nat) : Int) = i by omega] at this
    exact this
theorem z_nl_hd (h : z_vw v) : ∃ x K, z_nl v = x :: K ∧ 97 ≤ x := by
  obtain ⟨⟨h1, -⟩, h2, -⟩ := z_nl_vw h
  cases e : z_nl v with
  | nil => rw [e] at h1; exact absurd h1 (by decide)
  | cons x K => exact ⟨x, K, rfl, (h2 x (by rw [e]; exact List.mem_cons_self)).1⟩
theorem z_kur_word (h : z_kur T τ (z_nl v ++ y :: L)) (hv : z_vw v) (hy : y < 97) : (τ.2.2.1 = 1 ∧ τ.2.2.2 = v) ∧ z_kur T (z_nx T τ) (y :: L) := by
  obtain ⟨p, hp, rfl⟩ := h
  obtain ⟨a1, a2, a3⟩ := z_nl_vw hv
  obtain ⟨b1, b2⟩ := z_tl_app hp
  have e := z_tl_word hp a1 a2 hy
  unfold z_nx
  rw [e]
  refine ⟨⟨rfl, ?_⟩, p + ((z_nl v).length : Int), b2, rfl⟩
  show z_word (fun i => T.2 (p + i)) ((z_nl v).length : Int).toNat = v
  exact a3 _ b1
theorem z_kur_mark (h : z_kur T τ (59 :: L)) : τ.2.2.1 = 3 ∧ z_kur T (z_nx T τ) L := by
  obtain ⟨p, hp, rfl⟩ := h
  have e := z_tl_mark hp
  unfold z_nx
  rw [e]
  exact ⟨rfl, p + 1, (z_tl_cons hp).2, rfl⟩
theorem z_kur_end (h : z_kur T τ []) : τ.2.2.1 = 0 := by
  obtain ⟨p, hp, rfl⟩ := h
  rw [z_tl_end hp]
theorem z_kur_sw (h : z_kur T τ (32 :: (z_nl v ++ L))) (hv : z_vw v) : z_kur T τ (z_nl v ++ L) := by
  obtain ⟨p, hp, rfl⟩ := h
  obtain ⟨x, K, ex, hx⟩ := z_nl_hd hv
  have hp' := hp
  rw [ex] at hp'
  exact ⟨p + 1, (z_tl_cons hp).2, z_tl_skip hp' (by omega)⟩
theorem z_dl_all (h : 0 ≤ n ∧ n ≤ 999) : (1 ≤ (z_dl n).length ∧ (z_dl n).length ≤ 3) ∧ (∀ x ∈ z_dl n, 48 ≤ x ∧ x ≤ 57) ∧ ∀ f : Int → Int, (∀ (i : Nat) (x : Int), (z_dl n)[i]? = some x → f i = x) → z_dec f (z_dl n).length = n := by
  unfold z_dl
  by_cases c : n < 10
  · rw [if_pos c]
    refine ⟨⟨by show 1 ≤ 1; omega, by show 1 ≤ 3; omega⟩, fun x hx => ?_, fun f hf => ?_⟩
    · rw [List.mem_singleton.mp hx]; omega
    · have f0 := hf 0 _ rfl
      show 10 * 0 + (f ((0 : Nat) : Int) - 48) = n
      omega
  · rw [if_neg c]
    by_cases c2 : n < 100
    · rw [if_pos c2]
      refine ⟨⟨by show 1 ≤ 2; omega, by show 2 ≤ 3; omega⟩, fun x hx => ?_, fun f hf => ?_⟩
      · simp only [List.mem_cons, List.not_mem_nil, or_false] at hx
        rcases hx with rfl | rfl <;> omega
      · have f0 := hf 0 _ rfl
        have f1 := hf 1 _ rfl
        show 10 * (10 * 0 + (f ((0 : Nat) : Int) - 48)) + (f ((1 : Nat) : Int) - 48) = n
        omega
    · rw [if_neg c2]
      refine ⟨⟨by show 1 ≤ 3; omega, by show 3 ≤ 3; omega⟩, fun x hx => ?_, fun f hf => ?_⟩
      · simp only [List.mem_cons, List.not_mem_nil, or_false] at hx
        rcases hx with rfl | rfl | rfl <;> omega
      · have f0 := hf 0 _ rfl
        have f1 := hf 1 _ rfl
        have f2 := hf 2 _ rfl
        show 10 * (10 * (10 * 0 + (f ((0 : Nat) : Int) - 48)) + (f ((1 : Nat) : Int) - 48)) + (f ((2 : Nat) : Int) - 48) = n
        omega
theorem z_kur_num (h : z_kur T τ (z_dl n ++ y :: L)) (hn : 0 ≤ n ∧ n ≤ 999) (hy : y < 48 ∨ 57 < y) : (τ.2.2.1 = 2 ∧ τ.2.2.2 = n) ∧ z_kur T (z_nx T τ) (y :: L) := by
  obtain ⟨p, hp, rfl⟩ := h
  obtain ⟨a1, a2, a3⟩ := z_dl_all hn
  obtain ⟨b1, b2⟩ := z_tl_app hp
  have e := z_tl_num hp a1 a2 hy
  unfold z_nx
  rw [e]
  exact ⟨⟨rfl, a3 _ b1⟩, p + ((z_dl n).length : Int), b2, rfl⟩
theorem z_kur_sn (h : z_kur T τ (32 :: (z_dl n ++ L))) (hn : 0 ≤ n ∧ n ≤ 999) : z_kur T τ (z_dl n ++ L) := by
  obtain ⟨p, hp, rfl⟩ := h
  obtain ⟨⟨a1, -⟩, a2, -⟩ := z_dl_all hn
  cases e : z_dl n with
  | nil => rw [e] at a1; exact absurd a1 (by decide)
  | cons x K =>
    have hx := a2 x (by rw [e]; exact List.mem_cons_self)
    rw [e] at hp
    exact ⟨p + 1, (z_tl_cons hp).2, z_tl_skip hp (by omega)⟩
theorem z_vw_key {s : Nat} (hs : s < 16) : z_vw (z_skey s) := by
  obtain ⟨⟨l1, l5⟩, hl⟩ := z_slet s hs
  refine ⟨z_len.getD s 0, fun i => z_chr s i, l1, l5, fun i i0 i1 => ?_, rfl⟩
  have := hl i.toNat (by omega)
  rw [show ((i.toNat : Nat) : Int) = i by omega] at this
  exact this
theorem z_vwk : z_vw 5572 ∧ z_vw 5969364 ∧ z_vw 7216 ∧ z_vw 16686 ∧ z_vw 441972 ∧ z_vw 12748404 ∧ z_vw 15558 := by
  obtain ⟨s0, s1, s2, s3, s4, s5, s6, s7, -⟩ := z_skeys
  exact ⟨s3 ▸ z_vw_key (by decide), s5 ▸ z_vw_key (by decide), s6 ▸ z_vw_key (by decide), s7 ▸ z_vw_key (by decide), s1 ▸ z_vw_key (by decide), s2 ▸ z_vw_key (by decide), s4 ▸ z_vw_key (by decide)⟩
end ZCT
/-! THE TEXT, told from its head -/
def z_fr (G : Nat → List Int → List Int) : Nat → Nat → List Int → List Int
  | 0, _, R => R
  | n + 1, k, R => G k (z_fr G n (k + 1) R)
theorem z_fr_of {F : Nat → List Int} {G : Nat → List Int → List Int} (h : ∀ (k : Nat) (R : List Int), F (k + 1) ++ R = F k ++ G k R) : ∀ (n k : Nat) (R : List Int), F (k + n) ++ R = F k ++ z_fr G n k R
  | 0, k, R => rfl
  | n + 1, k, R => by
    rw [show k + (n + 1) = k + 1 + n by omega, z_fr_of h n (k + 1) R, h]
    rfl
def z_gE (A : z_A) (k : Nat) (R : List Int) : List Int := z_nl 5969364 ++ 32 :: (z_nl (A 9 ((k : Int) + 1)) ++ 59 :: R)
def z_gG (A : z_A) (k : Nat) (R : List Int) : List Int := z_nl 7216 ++ 32 :: (z_nl (A 9 (A 3 (k : Int))) ++ 32 :: (z_nl (A 9 (A 4 (k : Int))) ++ 32 :: (z_nl (if A 5 (k : Int) = 0 then 441972 else 12748404) ++ 32 :: (z_dl (A 6 (k : Int)) ++ (if A 7 (k : Int) = 0 then 32 :: (z_nl 15558 ++ 59 :: R) else 59 :: R)))))
def z_gP (A : z_A) (k : Nat) (R : List Int) : List Int := if A 8 ((k : Int) + 1) = -1 then R else z_nl 16686 ++ 32 :: (z_nl (A 9 ((k : Int) + 1)) ++ 32 :: (z_dl (A 8 ((k : Int) + 1)) ++ 59 :: R))
theorem z_x1_R {A : z_A} (k : Nat) (R : List Int) : z_x1 A (k + 1) ++ R = z_x1 A k ++ z_gE A k R := by
  rw [z_x1, z_str_17]
  unfold z_gE
  simp only [List.append_assoc, List.cons_append, List.nil_append]
theorem z_x2_R {A : z_A} (k : Nat) (R : List Int) : z_x2 A (k + 1) ++ R = z_x2 A k ++ z_gG A k R := by
  rw [z_x2]
  unfold z_xg z_gG
  rw [z_str_19, z_str_20, z_str_21, z_str_22]
  by_cases c : A 7 (k : Int) = 0
  · rw [if_pos c, if_pos c]
    by_cases d : A 5 (k : Int) = 0
    · rw [if_pos d, if_pos d]
      simp only [List.append_assoc, List.cons_append, List.nil_append]
    · rw [if_neg d, if_neg d]
      simp only [List.append_assoc, List.cons_append, List.nil_append]
  · rw [if_neg c, if_neg c]
    by_cases d : A 5 (k : Int) = 0
    · rw [if_pos d, if_pos d]
      simp only [List.append_assoc, List.cons_append, List.nil_append]
    · rw [if_neg d, if_neg d]
      simp only [List.append_assoc, List.cons_append, List.nil_append]
theorem z_x3_R {A : z_A} (k : Nat) (R : List Int) : z_x3 A (k + 1) ++ R = z_x3 A k ++ z_gP A k R := by
  rw [z_x3]
  unfold z_xp z_gP
  by_cases c : A 8 ((k : Int) + 1) = -1
  · rw [if_pos c, if_pos c]
  · rw [if_neg c, if_neg c, z_str_18]
    simp only [List.append_assoc, List.cons_append, List.nil_append]
theorem z_stx_R (A : z_A) : z_stx A = z_nl 5572 ++ 32 :: (z_dl (A 0 0) ++ 59 :: z_fr (z_gE A) (A 1 0 - 1).toNat 0 (z_fr (z_gG A) (A 2 0).toNat 0 (z_fr (z_gP A) (A 1 0 - 1).toNat 0 []))) := by
  have h3 := z_fr_of (F := z_x3 A) (G := z_gP A) z_x3_R (A 1 0 - 1).toNat 0 []
  have h2 := z_fr_of (F := z_x2 A) (G := z_gG A) z_x2_R (A 2 0).toNat 0 (z_fr (z_gP A) (A 1 0 - 1).toNat 0 [])
  have h1 := z_fr_of (F := z_x1 A) (G := z_gE A) z_x1_R (A 1 0 - 1).toNat 0 (z_fr (z_gG A) (A 2 0).toNat 0 (z_fr (z_gP A) (A 1 0 - 1).toNat 0 []))
  rw [Nat.zero_add] at h1 h2 h3
  show z_x3 A (A 1 0 - 1).toNat = _
  rw [← List.append_nil (z_x3 A (A 1 0 - 1).toNat), h3, show z_x3 A 0 = z_x2 A (A 2 0).toNat from rfl, h2, show z_x2 A 0 = z_x1 A (A 1 0 - 1).toNat from rfl, h1, show z_x1 A 0 = z_x0 A from rfl]
  unfold z_x0
  rw [z_str_16]
  simp only [List.append_assoc, List.cons_append, List.nil_append]
