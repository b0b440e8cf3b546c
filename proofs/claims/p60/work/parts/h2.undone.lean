/-! UNDONE: another object -/
/-- the same net, told anew -/
def z_same (A P : z_A) : Prop := z_eqg A P ∧ ∀ e : Int, z_bl (A 1 0) e → P 9 e = A 9 e
abbrev z_tg0 : z_C := .inl (8, [some none, some none, some none, some none, some none, some none, some none, some none, none])
/-- what the object's constructor does -/
def z_ctorTG (tgs : List z_C) : Prop := tgs.length = 161 ∧ z_isTG tgs 0 ∧ z_cls0 tgs ∧ ∀ (w : z_Mm) (Q : Option z_V → z_S → Prop), (∀ (w' : z_Mm) (er : Int), z_JC w' (z_ini 100) [] (0, fun _ => 0) er (fun _ => none) → Q none (tgs, w')) → z_Sem mX8_init (1, 0) 0 [(0, z_r 0)] [] ([z_tg0], w) Q
/-- a net's own text tells it -/
def z_parses : Prop := ∀ A : z_A, z_ok A → z_nmi A → ∀ T : z_T, z_tpx T ((z_stx A).length : Int) (z_cht (z_stx A)) → ¬ (z_ld0 T).1 = 0 ∧ z_same A (z_ld0 T).2.1
section ZOTHER
variable {M M' : z_M} {nz : Nat × Nat} {pc : Nat} {L : List (Nat × z_V)} {sh tgs : List z_C} {w : z_Mm} {Q : Option z_V → z_S → Prop} {A A' : z_A} {H H' : List z_A} {T T' : z_T} {er er' : Int} {s s' : Nat → Option z_A} {n : Nat}
theorem z_pw_at {r : Nat → Nat} {a : Nat} (h : a < 1000) : z_pw r w a = w (r a) := by unfold z_pw; rw [z_rnm_lt h]
/-- a call of the class, on the object at n -/
theorem z_goN {As rest st : List z_V} {idx k : Nat} {v : Int} (hme : z_me M' k) (hin : Cond.instanceMethod M'.1 ∈ z_tb) (hse : Cond.selects RX8 M'.1 M'.1 ∈ z_tb) (hlk : z_lk M.1.cls idx M') (hrm : z_rm M M') (hd : decode M.2.1 pc = .ok (.invokevirtual idx, 3)) (htg : tgs.length = 161) (hT : z_isTG tgs 0) (hc : z_cls0 tgs) (hp : z_pull (fun a => n + a) sh tgs)
    (hst : st = As.reverse ++ z_r n :: rest) (hn : As.length = k) (h1 : ∀ v ∈ As, ∃ y : Int, v = z_i y) (h2 : As.length + 1 ≤ M'.2.2.1) (hw : z_wds rest ≤ 8) (hcc : M'.2.2.2.2.cells = 0 ∧ M'.2.2.2.2.slots = 0) (hu : z_uc M' (z_r 0 :: As) A H T er s v A' H' T' er' s') (h : z_JC (z_pw (fun a => n + a) w) A H T er s) (hz : nz.2 ≤ M.2.2.2.2.cells ∧ nz.2 ≤ M.2.2.2.2.slots)
    (kk : ∀ w', z_JC (z_pw (fun a => n + a) w') A' H' T' er' s' → (∀ a : Nat, a < n → w' a = w a) → z_Sem M nz (pc + 3) L (z_i v :: rest) (sh, w') Q) : z_Sem M nz pc L st (sh, w) Q := by
  have hAs : As.map (z_rv (fun a => n + a)) = As := by
    conv => rhs; rw [← List.map_id As]
    refine List.map_congr_left (fun q hq => ?_)
    obtain ⟨y, rfl⟩ := h1 q hq
    rfl
  have hvs : (z_r 0 :: As).map (z_rv (fun a => n + a)) = z_r n :: As := by rw [List.map_cons, hAs]; rfl
  have hrec : sh[n]? = some (z_rc (fun a => n + a) (.inl (8, [some (some (0 + 1)), some (some (0 + 12)), some (some (0 + 18)), some (some (0 + 24)), some (some (0 + 114)), some (some (0 + 139)), some (some (0 + 140)), some (some (0 + 159)), none]))) := hp.1 0 _ hT.1
  refine z_callP (fun a => n + a) (sc := tgs) (vs := z_r 0 :: As) (rest := rest) (by rw [hvs]; exact z_invV (C := RX8) (As := As) hme hin hse hlk hrm hd hn) hme.2.2.2.2 (fun G p s m args meth c H locs hX hP => by
    exact z_recC (σ := (sh, w)) (show z_Cl[8]? = some (RX8, TX8, 9) from rfl) hrec hX hP) (by rw [hvs, hst]; simp) (List.forall_mem_cons.mpr ⟨True.intro, fun v hv => by obtain ⟨y, rfl⟩ := h1 v hv; exact True.intro⟩) h2 hw hp (by omega) hc (by omega) (by omega) ?_
  refine z_CIm (K := fun y w' => _ ) (hu tgs (z_pw (fun a => n + a) w) _ hT h (fun w' hj hf => ?_)) (fun x w' hk => hk)
  refine ⟨rfl, fun x hx => by injection hx with hx; rw [← hx]; exact True.intro, ?_⟩
  have hin2 : ∀ a : Nat, a < 161 → z_mw (fun a => n + a) tgs.length w w' (n + a) = w' a := fun a ha => z_mw_in (r := fun a => n + a) (fun a b _ _ q => (by have q' : n + a = n + b := q; omega)) (by omega)
  have := kk (z_mw (fun a => n + a) tgs.length w w') (hj.fr (fun a ha _ => by rw [z_pw_at (by omega)]; exact hin2 a (by omega))) (fun a ha => z_mw_out (fun b hb q => (by have q' : n + b = a := q; omega)))
  rw [hcc.2]
  exact this
end ZOTHER
section ZSAME
variable {A P : z_A}
theorem z_same.dd (h : z_same A P) (hA : z_okg A) {lo a b : Int} : z_dd P lo a b = z_dd A lo a b := by
  unfold z_dd
  rw [h.1.Sx hA lo, h.1.2.1]
theorem z_same.ro (h : z_same A P) (hA : z_okg A) : ∀ k : Nat, z_ro P k = z_ro A k
  | 0 => rfl
  | k + 1 => by rw [z_ro, z_ro, z_same.ro h hA k, h.dd hA, h.dd hA]
theorem z_same.x1 (h : z_same A P) : ∀ k : Nat, (k : Int) < A 1 0 → z_x1 P k = z_x1 A k
  | 0, _ => by
    show z_x0 P = z_x0 A
    unfold z_x0
    rw [h.1.1]
  | k + 1, hk => by
    rw [z_x1, z_x1, z_same.x1 h k (by omega), h.2 ((k : Int) + 1) ⟨by omega, by omega⟩]
theorem z_same.x2 (h : z_same A P) (hA : z_okg A) : ∀ k : Nat, (k : Int) ≤ A 2 0 → z_x2 P k = z_x2 A k
  | 0, _ => by
    show z_x1 P (P 1 0 - 1).toNat = z_x1 A (A 1 0 - 1).toNat
    rw [← h.1.2.1]
    exact z_same.x1 h _ (by have := hA.2.1; omega)
  | k + 1, hk => by
    obtain ⟨e3, e4, e5, e6, e7⟩ := h.1.2.2.2.1 (k : Int) (by omega) (by omega)
    obtain ⟨g3, g4, -⟩ := hA.2.2.2.1 (k : Int) (by omega) (by omega)
    show z_xg P (k : Int) (z_x2 P k) = z_xg A (k : Int) (z_x2 A k)
    unfold z_xg
    rw [z_same.x2 h hA k (by omega), ← e3, ← e4, ← e5, ← e6, ← e7, h.2 _ g3, h.2 _ g4]
theorem z_same.x3 (h : z_same A P) (hA : z_okg A) : ∀ k : Nat, (k : Int) < A 1 0 → z_x3 P k = z_x3 A k
  | 0, _ => by
    show z_x2 P (P 2 0).toNat = z_x2 A (A 2 0).toNat
    rw [← h.1.2.2.1]
    exact z_same.x2 h hA _ (by have := hA.2.2.1; omega)
  | k + 1, hk => by
    show z_xp P ((k : Int) + 1) (z_x3 P k) = z_xp A ((k : Int) + 1) (z_x3 A k)
    unfold z_xp
    rw [z_same.x3 h hA k (by omega), ← h.1.2.2.2.2 ((k : Int) + 1) (by omega) (by omega), h.2 _ ⟨by omega, by omega⟩]
theorem z_same.stx (h : z_same A P) (hA : z_okg A) : z_stx P = z_stx A := by
  show z_x3 P (P 1 0 - 1).toNat = z_x3 A (A 1 0 - 1).toNat
  rw [← h.1.2.1]
  exact z_same.x3 h hA _ (by have := hA.2.1; omega)
theorem z_same.xl (h : z_same A P) (hA : z_okg A) : ∀ k : Nat, (k : Int) ≤ A 1 0 → z_xl P k = z_xl A k
  | 0, _ => rfl
  | k + 1, hk => by
    show z_xe P (k : Int) (z_xl P k) = z_xe A (k : Int) (z_xl A k)
    unfold z_xe
    rw [z_same.xl h hA k (by omega), ← h.1.2.2.2.2 (k : Int) (by omega) (by omega), h.2 _ ⟨by omega, by omega⟩, h.dd hA, h.dd hA]
theorem z_lco_2 {v : Int} (h : v < 1024) : z_lco v ≤ 2 := by
  unfold z_lco
  split
  · decide
  · first | (rw [if_pos h]; decide) | decide
theorem z_nl_2 {v : Int} (h : v < 1024) : (z_nl v).length ≤ 2 := by
  have h1 := (z_nl_len v).1
  have h2 := z_lco_2 h
  omega
theorem z_x1_le (hn : z_nmi A) : ∀ k : Nat, (k : Int) < A 1 0 → (z_x1 A k).length ≤ 8 + 9 * k
  | 0, _ => by
    show (z_str 16 ++ z_dl (A 0 0) ++ [59]).length ≤ 8
    have := z_dl_len (A 0 0)
    rw [List.length_append, List.length_append, z_str_len.1, List.length_singleton]
    omega
  | k + 1, hk => by
    have ih := z_x1_le hn k (by omega)
    have h2 := z_nl_2 (hn.1 ((k : Int) + 1) (by omega) (by omega))
    show (z_x1 A k ++ z_str 17 ++ z_nl (A 9 ((k : Int) + 1)) ++ [59]).length ≤ _
    rw [List.length_append, List.length_append, List.length_append, z_str_len.2.1, List.length_singleton]
    omega
theorem z_x2_le (hA : z_okg A) (hn : z_nmi A) : ∀ k : Nat, (k : Int) ≤ A 2 0 → (z_x2 A k).length ≤ 89 + 27 * k
  | 0, _ => by
    have := z_x1_le hn (A 1 0 - 1).toNat (by have := hA.2.1; omega)
    have := hA.2.1
    show (z_x1 A (A 1 0 - 1).toNat).length ≤ 89
    omega
  | k + 1, hk => by
    have ih := z_x2_le hA hn k (by omega)
    obtain ⟨g3, g4, g34, g5, g6, g7⟩ := hA.2.2.2.1 (k : Int) (by omega) (by omega)
    have l3 := (z_nl_len (A 9 (A 3 (k : Int)))).2
    have l4 := (z_nl_len (A 9 (A 4 (k : Int)))).2
    have l34 : (z_nl (A 9 (A 3 (k : Int)))).length + (z_nl (A 9 (A 4 (k : Int)))).length ≤ 7 := by
      rcases (by omega : 1 ≤ A 3 (k : Int) ∨ 1 ≤ A 4 (k : Int)) with c | c
      · have := z_nl_2 (hn.1 _ c g3.2); omega
      · have := z_nl_2 (hn.1 _ c g4.2); omega
    have ld := z_dl_len (A 6 (k : Int))
    have lk : (if A 5 (k : Int) = 0 then z_str 20 else z_str 21).length ≤ 7 := by
      split
      · rw [z_str_len.2.2.2.2.1]; decide
      · rw [z_str_len.2.2.2.2.2.1]; decide
    show (z_xg A (k : Int) (z_x2 A k)).length ≤ _
    unfold z_xg
    rw [List.length_append, List.length_singleton]
    split <;> (simp only [List.length_append, List.length_singleton]; rw [z_str_len.2.2.2.1]; try rw [z_str_len.2.2.2.2.2.2]) <;> omega
theorem z_x3_l2 (hA : z_okg A) (hn : z_nmi A) : ∀ k : Nat, (k : Int) < A 1 0 → (z_x3 A k).length ≤ 737 + 11 * k
  | 0, _ => by
    have := z_x2_le hA hn (A 2 0).toNat (by have := hA.2.2.1; omega)
    have := hA.2.2.1
    show (z_x2 A (A 2 0).toNat).length ≤ 737
    omega
  | k + 1, hk => by
    have ih := z_x3_l2 hA hn k (by omega)
    have h2 := z_nl_2 (hn.1 ((k : Int) + 1) (by omega) (by omega))
    have ld := z_dl_len (A 8 ((k : Int) + 1))
    show (z_xp A ((k : Int) + 1) (z_x3 A k)).length ≤ _
    unfold z_xp
    split
    · omega
    · simp only [List.length_append, List.length_singleton]
      rw [z_str_len.2.2.1]
      omega
theorem z_stx_le (hA : z_okg A) (hn : z_nmi A) : (z_stx A).length ≤ 880 := by
  have h1 := hA.2.1
  have := z_x3_l2 hA hn (A 1 0 - 1).toNat (by omega)
  show (z_x3 A (A 1 0 - 1).toNat).length ≤ 880
  omega
theorem z_x1_ge : ∀ k : Nat, 1 ≤ (z_x1 A k).length
  | 0 => by
    show 1 ≤ (z_str 16 ++ z_dl (A 0 0) ++ [59]).length
    rw [List.length_append, List.length_singleton]; omega
  | k + 1 => by
    show 1 ≤ (z_x1 A k ++ z_str 17 ++ z_nl (A 9 ((k : Int) + 1)) ++ [59]).length
    rw [List.length_append, List.length_singleton]; omega
theorem z_x2_ge : ∀ k : Nat, 1 ≤ (z_x2 A k).length
  | 0 => z_x1_ge _
  | k + 1 => by
    show 1 ≤ (z_xg A (k : Int) (z_x2 A k)).length
    unfold z_xg
    rw [List.length_append, List.length_singleton]; omega
theorem z_x3_ge : ∀ k : Nat, 1 ≤ (z_x3 A k).length
  | 0 => z_x2_ge _
  | k + 1 => by
    show 1 ≤ (z_xp A ((k : Int) + 1) (z_x3 A k)).length
    unfold z_xp
    split
    · exact z_x3_ge k
    · rw [List.length_append, List.length_singleton]; omega
end ZSAME
