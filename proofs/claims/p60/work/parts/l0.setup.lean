/-! SETUP: the text that the law makes up, and the net that it tells -/
theorem z_strL : (z_str 23 = z_str 16 ∧ z_str 24 = [59] ∧ z_str 25 = z_str 17 ∧ z_str 26 = z_str 19 ∧ z_str 27 = z_nl 20579924 ∧ z_str 28 = []) ∧ z_str 29 = z_str 20 ∧ z_str 30 = z_str 21 ∧ z_str 31 = z_str 22 ++ [59] ∧ z_str 32 = z_str 18 ∧ z_str 33 = [32] := by decide +kernel
theorem z_strLl : ((z_str 23).length = 4 ∧ (z_str 24).length = 1 ∧ (z_str 25).length = 6 ∧ (z_str 26).length = 4 ∧ (z_str 27).length = 5 ∧ (z_str 28).length = 0) ∧ (z_str 29).length = 6 ∧ (z_str 30).length = 7 ∧ (z_str 31).length = 5 ∧ (z_str 32).length = 4 ∧ (z_str 33).length = 1 := by decide +kernel
theorem z_nl1 : ∀ k : Nat, k < 27 → z_nl (k : Int) = [96 + (k : Int)] := by decide +kernel
theorem z_nl1' {e : Int} (h : 1 ≤ e ∧ e < 10) : z_nl (e + 1) = [97 + e] := by
  have := z_nl1 (e + 1).toNat (by omega)
  rw [show (((e + 1).toNat : Nat) : Int) = e + 1 by omega] at this
  rw [this]
  exact congrArg (fun x => [x]) (by omega)
theorem z_vw1 {v : Int} (h : 1 ≤ v ∧ v ≤ 26) : z_vw v := ⟨1, fun _ => v + 96, by decide, by decide, fun i _ _ => ⟨by show 97 ≤ v + 96; omega, by show v + 96 ≤ 122; omega⟩, by rw [z_wx1]; omega⟩
def z_nop (A : z_A) : Prop := ∀ e : Int, z_bl (A 1 0) e → A 8 e = -1
section ZSKT
variable {A P : z_A} {x x' : Int → Int} {v e t one oth kd n on : Int}
theorem z_x1_cg (h0 : P 0 0 = A 0 0) : ∀ k : Nat, (∀ e : Int, 1 ≤ e → e ≤ (k : Int) → P 9 e = A 9 e) → z_x1 P k = z_x1 A k
  | 0, _ => by
    show z_x0 P = z_x0 A
    unfold z_x0
    rw [h0]
  | k + 1, h => by
    rw [z_x1, z_x1, z_x1_cg h0 k (fun e e0 e1 => h e e0 (by omega)), h ((k : Int) + 1) (by omega) (by omega)]
theorem z_x2_cg (h0 : P 0 0 = A 0 0) (h1 : P 1 0 = A 1 0) (h9 : ∀ e : Int, P 9 e = A 9 e) : ∀ k : Nat, (∀ i : Int, 0 ≤ i → i < (k : Int) → P 3 i = A 3 i ∧ P 4 i = A 4 i ∧ P 5 i = A 5 i ∧ P 6 i = A 6 i ∧ P 7 i = A 7 i) → z_x2 P k = z_x2 A k
  | 0, _ => by
    show z_x1 P (P 1 0 - 1).toNat = z_x1 A (A 1 0 - 1).toNat
    rw [h1]
    exact z_x1_cg h0 _ (fun e _ _ => h9 e)
  | k + 1, h => by
    obtain ⟨e3, e4, e5, e6, e7⟩ := h (k : Int) (by omega) (by omega)
    show z_xg P (k : Int) (z_x2 P k) = z_xg A (k : Int) (z_x2 A k)
    unfold z_xg
    rw [z_x2_cg h0 h1 h9 k (fun i i0 i1 => h i i0 (by omega)), e3, e4, e5, e6, e7, h9, h9]
theorem z_x3_nop (h : z_nop A) : ∀ k : Nat, (k : Int) < A 1 0 → z_x3 A k = z_x2 A (A 2 0).toNat
  | 0, _ => rfl
  | k + 1, hk => by
    show z_xp A ((k : Int) + 1) (z_x3 A k) = _
    unfold z_xp
    rw [if_pos (h _ ⟨by omega, by omega⟩)]
    exact z_x3_nop h k (by omega)
theorem z_stx_nop (h : z_nop A) (r1 : 1 ≤ A 1 0) : z_stx A = z_x2 A (A 2 0).toNat := z_x3_nop h _ (by omega)
theorem z_nop_opn (h : z_nop A) (r1 : 1 ≤ A 1 0) : z_nop (z_opn A v) := by
  intro e he
  rw [z_opn_1] at he
  by_cases c : e = A 1 0
  · rw [c]; exact z_opn_8
  · rw [z_opn_ne (Or.inl (by decide)) (Or.inl (by decide)) (Or.inr c)]
    exact h e ⟨he.1, by have := he.2; omega⟩
theorem z_nop_add (h : z_nop A) : z_nop (z_add A one oth kd n on) := by
  intro e he
  rw [z_add_c1] at he
  rw [z_add_lt (Or.inr (by decide))]
  exact h e he
theorem z_stx_ini : z_stx (z_ini v) = z_str 16 ++ z_dl v ++ [59] := by
  obtain ⟨i0, i1, i2, i8, i9, -⟩ := z_ini_v (n := v)
  have hn : z_nop (z_ini v) := fun e he => by
    rw [i1] at he
    rw [show e = 0 by have := he.1; have := he.2; omega, i8]
  rw [z_stx_nop hn (by rw [i1]; decide), i2]
  show z_x1 (z_ini v) (z_ini v 1 0 - 1).toNat = _
  rw [i1]
  show z_x0 (z_ini v) = _
  unfold z_x0
  rw [i0]
theorem z_stx_opn (h : z_nop A) (r1 : 1 ≤ A 1 0) (h2 : A 2 0 = 0) : z_stx (z_opn A v) = z_stx A ++ z_str 17 ++ z_nl v ++ [59] := by
  have e1 : z_opn A v 1 0 = A 1 0 + 1 := z_opn_1
  rw [z_stx_nop (z_nop_opn h r1) (by omega), z_stx_nop h r1, z_opn_2, h2]
  show z_x1 (z_opn A v) (z_opn A v 1 0 - 1).toNat = z_x1 A (A 1 0 - 1).toNat ++ z_str 17 ++ z_nl v ++ [59]
  rw [e1, z_x1_s r1, z_opn_9 r1, z_x1_cg (z_opn_ne (Or.inl (by decide)) (Or.inl (by decide)) (Or.inl (by decide))) _ (fun e e0 e1 => z_opn_ne (Or.inl (by decide)) (Or.inr (by omega)) (Or.inl (by decide)))]
theorem z_stx_add (h : z_nop A) (r1 : 1 ≤ A 1 0) (r2 : 0 ≤ A 2 0) : z_stx (z_add A one oth kd n on) = (if on = 0 then (z_stx A ++ z_str 19 ++ z_nl (A 9 one) ++ [32] ++ z_nl (A 9 oth) ++ (if kd = 0 then z_str 20 else z_str 21) ++ z_dl n) ++ z_str 22
    else (z_stx A ++ z_str 19 ++ z_nl (A 9 one) ++ [32] ++ z_nl (A 9 oth) ++ (if kd = 0 then z_str 20 else z_str 21) ++ z_dl n)) ++ [59] := by
  obtain ⟨n3, n4, n5, n6, n7⟩ := z_add_new (A := A) (one := one) (oth := oth) (kd := kd) (n := n) (on := on)
  have e1 : z_add A one oth kd n on 1 0 = A 1 0 := z_add_c1
  rw [z_stx_nop (z_nop_add h) (by omega), z_stx_nop h r1, z_add_2, z_x2_s r2, z_x2_cg (P := z_add A one oth kd n on) (A := A) (z_add_lt (Or.inl (by decide))) e1 (fun e => z_add_c9) _ (fun i i0 i1 => by
    have c' : i ≠ A 2 0 := by omega
    rw [z_add_old ⟨by decide, by decide⟩ c', z_add_old ⟨by decide, by decide⟩ c', z_add_old ⟨by decide, by decide⟩ c', z_add_old ⟨by decide, by decide⟩ c', z_add_old ⟨by decide, by decide⟩ c']
    exact ⟨rfl, rfl, rfl, rfl, rfl⟩)]
  unfold z_xg
  rw [n3, n4, n5, n6, n7, z_add_c9, z_add_c9]
theorem z_stx_pin (h : z_nop A) (he : 1 ≤ e ∧ e < A 1 0) (ht : t ≠ -1) : z_stx (z_up A 8 e t) = z_stx A ++ z_str 18 ++ z_nl (A 9 e) ++ [32] ++ z_dl t ++ [59] := by
  have u : ∀ (ch : Nat) (j : Int), ch ≠ 8 → z_up A 8 e t ch j = A ch j := fun ch j hc => z_up_ne (Or.inl hc)
  have h3 : ∀ k : Nat, (k : Int) < A 1 0 → z_x3 (z_up A 8 e t) k = if e ≤ (k : Int) then z_x2 A (A 2 0).toNat ++ z_str 18 ++ z_nl (A 9 e) ++ [32] ++ z_dl t ++ [59] else z_x2 A (A 2 0).toNat := by
    intro k
    induction k with
    | zero =>
      intro _
      rw [if_neg (by omega)]
      show z_x2 (z_up A 8 e t) (z_up A 8 e t 2 0).toNat = _
      rw [u 2 0 (by decide)]
      exact z_x2_cg (u _ _ (by decide)) (u _ _ (by decide)) (fun f => u _ _ (by decide)) _ (fun i _ _ => ⟨u _ _ (by decide), u _ _ (by decide), u _ _ (by decide), u _ _ (by decide), u _ _ (by decide)⟩)
    | succ k ih =>
      intro hk
      show z_xp (z_up A 8 e t) ((k : Int) + 1) (z_x3 (z_up A 8 e t) k) = _
      unfold z_xp
      rw [ih (by omega)]
      by_cases c : (k : Int) + 1 = e
      · rw [c, z_up_same, if_neg ht, if_neg (by omega), if_pos (by omega), u 9 e (by decide)]
      · rw [z_up_ne (Or.inr c), if_pos (h _ ⟨by omega, by omega⟩)]
        by_cases d : e ≤ (k : Int)
        · rw [if_pos d, if_pos (by omega)]
        · rw [if_neg d, if_neg (by omega)]
  show z_x3 (z_up A 8 e t) (z_up A 8 e t 1 0 - 1).toNat = _
  rw [u 1 0 (by decide), h3 _ (by omega), if_pos (by omega), z_stx_nop h (by omega)]
/-- a net that hidden times bear, without pins -/
def z_sk (x : Int → Int) (A : z_A) : Prop := (40 ≤ A 0 0 ∧ A 0 0 ≤ 99) ∧ z_okg A ∧ z_okn A ∧ (∀ e : Int, 1 ≤ e → e < A 1 0 → A 9 e = e + 1) ∧ z_nop A ∧ x 0 = 0 ∧ (∀ e : Int, 1 ≤ e → e < A 1 0 → 0 ≤ x e ∧ x e ≤ 39) ∧ ∀ g : Int, 0 ≤ g → g < A 2 0 → z_Fg A g x
theorem z_sk.nmi (h : z_sk x A) : z_nmi A := by
  obtain ⟨h0, hg, hn, h9, hp, hx, ht, hf⟩ := h
  have r1 := hg.2.1
  have n0 : A 9 0 = 20579924 := hn.2.1
  refine ⟨fun e e0 e1 => by rw [h9 e e0 e1]; omega, fun e f he hf q => ?_⟩
  obtain ⟨e0, e1⟩ := he
  obtain ⟨f0, f1⟩ := hf
  rcases (by omega : e = 0 ∨ 1 ≤ e) with c | c <;> rcases (by omega : f = 0 ∨ 1 ≤ f) with d | d
  · omega
  · rw [c, n0, h9 f d f1] at q; omega
  · rw [d, n0, h9 e c e1] at q; omega
  · rw [h9 e c e1, h9 f d f1] at q; omega
theorem z_sk.ok (h : z_sk x A) : z_ok A := by
  obtain ⟨h0, hg, hn, h9, hp, hx, ht, hf⟩ := h
  refine ⟨hg, ⟨x, fun g g0 g1 _ _ => hf g g0 g1, fun e e0 e1 => ?_, fun e e0 e1 e2 => absurd (hp e ⟨by omega, e1⟩) e2⟩, hn⟩
  have := ht e e0 e1
  omega
theorem z_sk_ini (h : 40 ≤ n ∧ n ≤ 99) (hx : x 0 = 0) : z_sk x (z_ini n) := by
  obtain ⟨i0, i1, i2, i8, i9, -⟩ := z_ini_v (n := n)
  have ho := z_ok_ini (n := n) ⟨by omega, by omega⟩
  refine ⟨by rw [i0]; exact h, ho.1, ho.2.2, fun e e0 e1 => absurd e1 (by rw [i1]; omega), fun e he => ?_, hx, fun e e0 e1 => absurd e1 (by rw [i1]; omega), fun g g0 g1 => absurd g1 (by rw [i2]; omega)⟩
  rw [i1] at he
  rw [show e = 0 by have := he.1; have := he.2; omega, i8]
theorem z_sk_opn (h : z_sk x A) (h2 : A 2 0 = 0) (h10 : A 1 0 < 10) (hx' : ∀ e : Int, z_bl (A 1 0) e → x' e = x e) (hn : 0 ≤ x' (A 1 0) ∧ x' (A 1 0) ≤ 39) : z_sk x' (z_opn A (A 1 0 + 1)) := by
  obtain ⟨h0, hg, hN, h9, hp, hx, ht, hf⟩ := h
  have r1 := hg.2.1
  refine ⟨by rw [z_opn_ne (Or.inl (by decide)) (Or.inl (by decide)) (Or.inl (by decide))]; exact h0, z_okg_opn hg h10, z_okn_opn hg hN (z_vw1 (by omega)), fun e e0 e1 => ?_, z_nop_opn hp r1.1, ?_, fun e e0 e1 => ?_, fun g g0 g1 => absurd g1 (by rw [z_opn_2]; omega)⟩
  · rw [z_opn_1] at e1
    by_cases c : e = A 1 0
    · rw [c, z_opn_9 r1.1]
    · rw [z_opn_ne (Or.inl (by decide)) (Or.inr c) (Or.inl (by decide))]
      exact h9 e e0 (by omega)
  · rw [hx' 0 ⟨by omega, by omega⟩]; exact hx
  · rw [z_opn_1] at e1
    by_cases c : e = A 1 0
    · rw [c]; exact hn
    · rw [hx' e ⟨by omega, by omega⟩]; exact ht e e0 (by omega)
theorem z_sk_add (h : z_sk x A) (h24 : A 2 0 < 24) (h1 : 0 ≤ one ∧ one < A 1 0) (h2 : 0 ≤ oth ∧ oth < A 1 0) (h3 : one ≠ oth) (h4 : 0 ≤ kd ∧ kd ≤ 1) (h5 : 0 ≤ n ∧ n ≤ 999) (h6 : 0 ≤ on ∧ on ≤ 1) (hf : if kd = 0 then x oth - x one ≤ n else x one - x oth ≤ - n) : z_sk x (z_add A one oth kd n on) := by
  obtain ⟨h0, hg, hN, h9, hp, hx, ht, hF⟩ := h
  obtain ⟨n3, n4, n5, n6, n7⟩ := z_add_new (A := A) (one := one) (oth := oth) (kd := kd) (n := n) (on := on)
  refine ⟨by rw [z_add_lt (Or.inl (by decide))]; exact h0, z_okg_add hg h24 h1 h2 h3 h4 h5 h6, z_okn_of hN z_add_c1 (fun _ => z_add_c9) z_add_c10, fun e e0 e1 => ?_, z_nop_add hp, hx, fun e e0 e1 => ?_, fun g g0 g1 => ?_⟩
  · rw [z_add_c1] at e1
    rw [z_add_c9]
    exact h9 e e0 e1
  · rw [z_add_c1] at e1
    exact ht e e0 e1
  · rw [z_add_2] at g1
    unfold z_Fg
    by_cases c : g = A 2 0
    · rw [c, n3, n4, n5, n6]
      exact hf
    · rw [z_add_old ⟨by decide, by decide⟩ c, z_add_old ⟨by decide, by decide⟩ c, z_add_old ⟨by decide, by decide⟩ c, z_add_old ⟨by decide, by decide⟩ c]
      exact hF g g0 (by omega)
theorem z_sk_pin (h : z_sk x A) (he : 1 ≤ e ∧ e < A 1 0) : z_ok (z_up A 8 e (x e)) ∧ z_nmi (z_up A 8 e (x e)) := by
  have hni := h.nmi
  obtain ⟨h0, hg, hN, h9, hp, hx, ht, hF⟩ := h
  have u : ∀ (ch : Nat) (j : Int), ch ≠ 8 → z_up A 8 e (x e) ch j = A ch j := fun ch j hc => z_up_ne (Or.inl hc)
  have hte := ht e he.1 he.2
  refine ⟨⟨z_okg_pin hg (by omega) (by omega), ⟨x, fun g g0 g1 _ _ => ?_, fun f f0 f1 => ?_, fun f f0 f1 f2 => ?_⟩, z_okn_up hN (by decide) (by decide) (by decide)⟩, ?_⟩
  · rw [u _ _ (by decide)] at g1
    unfold z_Fg
    rw [u _ _ (by decide), u _ _ (by decide), u _ _ (by decide), u _ _ (by decide)]
    exact hF g g0 g1
  · rw [u _ _ (by decide)] at f1
    rw [u _ _ (by decide)]
    have := ht f f0 f1
    omega
  · rw [u _ _ (by decide)] at f1
    by_cases c : f = e
    · rw [c, z_up_same]; omega
    · rw [z_up_ne (Or.inr c)] at f2
      exact absurd (hp f ⟨by omega, f1⟩) f2
  · obtain ⟨a1, a2⟩ := hni
    refine ⟨fun f f0 f1 => ?_, fun f g hf hg' q => ?_⟩
    · rw [u _ _ (by decide)] at f1 ⊢
      exact a1 f f0 f1
    · rw [u _ _ (by decide)] at hf hg'
      rw [u _ _ (by decide), u _ _ (by decide)] at q
      exact a2 f g hf hg' q
theorem z_sk.stx_as (h : z_sk x A) : z_as (z_stx A) := by
  have hg := h.2.1
  exact z_as_x3 hg _ (by have := hg.2.1; omega)
end ZSKT
