/-! WRITE: a text onto the tape -/
theorem z_sh8 {x : Int} (hx : 0 ≤ x ∧ x < 8388608) : z_shl x 8 = 256 * x := by
  unfold z_shl
  have h0 : ((Int32.ofInt 8 &&& 31).toBitVec.smod 32).toNat = 8 := by decide
  have h1 := pk_shl (Int32.ofInt x) (Int32.ofInt 8 &&& 31) 8 h0
  have hR : z_R x := ⟨by omega, by omega⟩
  have hN := z_toNat hR
  rw [← Int32.toInt_toBitVec, BitVec.toInt_eq_toNat_cond, h1]
  have h2 := (Int32.ofInt x).toBitVec.isLt
  split at hN
  · have : (Int32.ofInt x).toBitVec.toNat * 2 ^ 8 % 2 ^ 32 = (Int32.ofInt x).toBitVec.toNat * 2 ^ 8 := Nat.mod_eq_of_lt (by omega)
    rw [this, if_pos (by omega)]
    omega
  · omega
theorem z_or8 {x c : Int} (hx : 0 ≤ x ∧ x < 8388608) (hc : 0 ≤ c ∧ c < 256) : z_or (256 * x) c = 256 * x + c := by
  unfold z_or
  have hR1 : z_R (256 * x) := ⟨by omega, by omega⟩
  have hR2 : z_R c := ⟨by omega, by omega⟩
  have h1 := z_toNat hR1
  have h2 := z_toNat hR2
  have e : (Int32.ofInt (256 * x) ||| Int32.ofInt c).toInt = ((Int32.ofInt (256 * x)).toBitVec ||| (Int32.ofInt c).toBitVec).toInt := rfl
  rw [e, BitVec.toInt_eq_toNat_cond, BitVec.toNat_or]
  have i1 := (Int32.ofInt (256 * x)).toBitVec.isLt
  have i2 := (Int32.ofInt c).toBitVec.isLt
  split at h1
  · split at h2
    · generalize (Int32.ofInt (256 * x)).toBitVec.toNat = a at h1 i1
      generalize (Int32.ofInt c).toBitVec.toNat = b at h2 i2
      have ha : a = 2 ^ 8 * x.toNat := by omega
      have hb : b < 2 ^ 8 := by omega
      rw [ha, ← Nat.two_pow_add_eq_or_of_lt hb]
      rw [if_pos (by omega)]
      omega
    · omega
  · omega
/-- what the tape holds: n letters -/
def z_tpx (T : z_T) (n : Int) (ch : Int → Int) : Prop := T.1 = n ∧ ∀ i : Int, 0 ≤ i → i < n → T.2 i = ch i
theorem z_tpx.t1 {T : z_T} {n b : Int} {ch : Int → Int} (h : z_tpx T n ch) (hb : b = ch n) : z_tpx (z_t1 T b) (n + 1) ch := by
  obtain ⟨h1, h2⟩ := h
  refine ⟨by show T.1 + 1 = n + 1; omega, fun i i0 i1 => ?_⟩
  show (if i = T.1 then b else T.2 i) = ch i
  by_cases c : i = T.1
  · rw [if_pos c, hb, c, h1]
  · rw [if_neg c]; exact h2 i i0 (by omega)
theorem z_tpx.t4 {T : z_T} {n x : Int} {ch : Int → Int} (h : z_tpx T n ch) (hc : ∀ i, 0 ≤ ch i ∧ ch i < 128) (hx : x = 256 * (256 * (256 * ch n + ch (n + 1)) + ch (n + 2)) + ch (n + 3)) : z_tpx (z_t4 T x) (n + 4) ch := by
  have c0 := hc n
  have c1 := hc (n + 1)
  have c2 := hc (n + 2)
  have c3 := hc (n + 3)
  have a1 := h.t1 (b := x / 16777216 % 256) (by omega)
  have a2 := a1.t1 (b := x / 65536 % 256) (by omega)
  have a3 := a2.t1 (b := x / 256 % 256) (by rw [show n + 1 + 1 = n + 2 by omega]; omega)
  have a4 := a3.t1 (b := x % 256) (by rw [show n + 1 + 1 + 1 = n + 3 by omega]; omega)
  rw [show n + 1 + 1 + 1 + 1 = n + 4 by omega] at a4
  exact a4
/-- letters packed -/
def z_pkk (f : Int → Int) (p : Int) : Nat → Int
  | 0 => 0
  | n + 1 => 256 * z_pkk f p n + f (p + (n : Int))
theorem z_pkk_R {f : Int → Int} (hf : ∀ i, 0 ≤ f i ∧ f i < 128) {p : Int} : ∀ n : Nat, n ≤ 3 → 0 ≤ z_pkk f p n ∧ z_pkk f p n < 8388608
  | 0, _ => by
    show (0 : Int) ≤ 0 ∧ (0 : Int) < 8388608
    decide
  | 1, _ => by
    have := hf (p + ((0 : Nat) : Int))
    show 0 ≤ 256 * 0 + f (p + ((0 : Nat) : Int)) ∧ 256 * 0 + f (p + ((0 : Nat) : Int)) < 8388608
    omega
  | 2, _ => by
    have h0 := hf (p + ((0 : Nat) : Int))
    have h1 := hf (p + ((1 : Nat) : Int))
    show 0 ≤ 256 * (256 * 0 + f (p + ((0 : Nat) : Int))) + f (p + ((1 : Nat) : Int)) ∧ 256 * (256 * 0 + f (p + ((0 : Nat) : Int))) + f (p + ((1 : Nat) : Int)) < 8388608
    omega
  | 3, _ => by
    have h0 := hf (p + ((0 : Nat) : Int))
    have h1 := hf (p + ((1 : Nat) : Int))
    have h2 := hf (p + ((2 : Nat) : Int))
    show 0 ≤ 256 * (256 * (256 * 0 + f (p + ((0 : Nat) : Int))) + f (p + ((1 : Nat) : Int))) + f (p + ((2 : Nat) : Int)) ∧ 256 * (256 * (256 * 0 + f (p + ((0 : Nat) : Int))) + f (p + ((1 : Nat) : Int))) + f (p + ((2 : Nat) : Int)) < 8388608
    omega
/-- how many letters of the q-th word are there before the i-th letter -/
def z_cnt (i q : Nat) : Nat := if i ≤ 4 * q then 0 else if 4 * q + 4 ≤ i then 4 else i - 4 * q
/-- a text's letters, then spaces -/
def z_cht (t : List Int) (i : Int) : Int := if i < t.length then (t[i.toNat]?).getD 0 else 32
theorem z_cht_R {t : List Int} (h : z_as t) (i : Int) : 0 ≤ z_cht t i ∧ z_cht t i < 128 := by
  unfold z_cht
  split
  · cases hh : t[i.toNat]? with
    | none => decide
    | some b => exact h b (List.mem_of_getElem? hh)
  · decide
theorem z_isx_app {sh l : List z_C} {w : z_Mm} {x : Nat} {t : List Int} (h : z_isx sh w x t) : z_isx (sh ++ l) w x t := by
  refine ⟨h.1, ?_⟩
  rcases h.2 with h1 | ⟨v, h1, h2, h3⟩
  · exact Or.inl h1
  · exact Or.inr ⟨v, ⟨by rw [List.getElem?_append_left (z_ltat h1.1)]; exact h1.1, by rw [List.getElem?_append_left (z_ltat h1.2)]; exact h1.2⟩, h2, h3⟩
/-- the same cells from lo on, below hi -/
def z_mo (lo hi : Nat) (sh sh' : List z_C) : Prop := ∀ (b : Nat) (c : z_C), lo ≤ b → b < hi → sh[b]? = some c → sh'[b]? = some c
section ZMO
variable {lo hi : Nat} {sh sh' : List z_C}
theorem z_isLog_mo (hm : z_mo lo hi sh sh') {a : Nat} (h0 : lo ≤ a) (h1 : a + 1 < hi) (h : z_isLog sh a) : z_isLog sh' a := ⟨hm _ _ h0 (by omega) h.1, hm _ _ (by omega) h1 h.2⟩
theorem z_isNet_mo (hm : z_mo lo hi sh sh') {a : Nat} (h0 : lo ≤ a) (h1 : a + 5 < hi) (h : z_isNet sh a) : z_isNet sh' a := ⟨hm _ _ h0 (by omega) h.1, hm _ _ (by omega) (by omega) h.2.1, hm _ _ (by omega) (by omega) h.2.2.1, hm _ _ (by omega) (by omega) h.2.2.2.1, hm _ _ (by omega) (by omega) h.2.2.2.2.1, hm _ _ (by omega) (by omega) h.2.2.2.2.2⟩
theorem z_isPla_mo (hm : z_mo lo hi sh sh') {a : Nat} (h0 : lo ≤ a) (h1 : a + 10 < hi) (h : z_isPla sh a) : z_isPla sh' a := ⟨hm _ _ h0 (by omega) h.1, hm _ _ (by omega) (by omega) h.2.1, hm _ _ (by omega) (by omega) h.2.2.1, hm _ _ (by omega) (by omega) h.2.2.2.1, hm _ _ (by omega) (by omega) h.2.2.2.2.1, hm _ _ (by omega) (by omega) h.2.2.2.2.2.1, hm _ _ (by omega) (by omega) h.2.2.2.2.2.2.1, hm _ _ (by omega) (by omega) h.2.2.2.2.2.2.2.1, hm _ _ (by omega) (by omega) h.2.2.2.2.2.2.2.2.1, z_isLog_mo hm (by omega) (by omega) h.2.2.2.2.2.2.2.2.2⟩
theorem z_isTap_mo (hm : z_mo lo hi sh sh') {a : Nat} (h0 : lo ≤ a) (h1 : a + 1 < hi) (h : z_isTap sh a) : z_isTap sh' a := ⟨hm _ _ h0 (by omega) h.1, hm _ _ (by omega) h1 h.2⟩
theorem z_isTex_mo (hm : z_mo lo hi sh sh') {a : Nat} (h0 : lo ≤ a) (h1 : a + 1 < hi) (h : z_isTex sh a) : z_isTex sh' a := ⟨hm _ _ h0 (by omega) h.1, hm _ _ (by omega) h1 h.2⟩
theorem z_isHis_mo (hm : z_mo lo hi sh sh') {a : Nat} (h0 : lo ≤ a) (h1 : a + 89 < hi) (h : z_isHis sh a) : z_isHis sh' a := ⟨hm _ _ h0 (by omega) h.1, hm _ _ (by omega) (by omega) h.2.1, fun k hk => z_isPla_mo hm (by omega) (by omega) (h.2.2 k hk)⟩
theorem z_isSlo_mo (hm : z_mo lo hi sh sh') {a : Nat} (h0 : lo ≤ a) (h1 : a + 24 < hi) (h : z_isSlo sh a) : z_isSlo sh' a := ⟨hm _ _ h0 (by omega) h.1, hm _ _ (by omega) (by omega) h.2.1, hm _ _ (by omega) (by omega) h.2.2.1, fun k hk => z_isPla_mo hm (by omega) (by omega) (h.2.2.2 k hk)⟩
theorem z_isRea_mo (hm : z_mo lo hi sh sh') {a : Nat} (h0 : lo ≤ a) (h1 : a + 19 < hi) (h : z_isRea sh a) : z_isRea sh' a := ⟨hm _ _ h0 (by omega) h.1, z_isTap_mo hm (by omega) (by omega) h.2.1, z_isPla_mo hm (by omega) (by omega) h.2.2.1, z_isNet_mo hm (by omega) (by omega) h.2.2.2⟩
theorem z_isTG_mo (hm : z_mo lo hi sh sh') {a : Nat} (h0 : lo ≤ a) (h1 : a + 160 < hi) (h : z_isTG sh a) : z_isTG sh' a := ⟨hm _ _ h0 (by omega) h.1, z_isPla_mo hm (by omega) (by omega) h.2.1, z_isNet_mo hm (by omega) (by omega) h.2.2.1, z_isNet_mo hm (by omega) (by omega) h.2.2.2.1, z_isHis_mo hm (by omega) (by omega) h.2.2.2.2.1, z_isSlo_mo hm (by omega) (by omega) h.2.2.2.2.2.1, z_isRea_mo hm (by omega) (by omega) h.2.2.2.2.2.2.1, z_isTap_mo hm (by omega) (by omega) h.2.2.2.2.2.2.2.1, z_isTex_mo hm (by omega) (by omega) h.2.2.2.2.2.2.2.2⟩
end ZMO
theorem z_TGapp {sh l : List z_C} (h : z_isTG sh 0) : z_isTG (sh ++ l) 0 := z_isTG_mo (lo := 0) (hi := 161) (fun b c _ _ hb => by rw [List.getElem?_append_left (z_ltat hb)]; exact hb) (Nat.le_refl _) (by decide) h
section ZGO
variable {M M' : z_M} {nz : Nat × Nat} {pc : Nat} {L : List (Nat × z_V)} {sh : List z_C} {w : z_Mm} {Q : Option z_V → z_S → Prop} {A A' : z_A} {H H' : List z_A} {T T' : z_T} {er er' : Int} {s s' : Nat → Option z_A}
/-- a call of the class -/
theorem z_goU {As rest st : List z_V} {idx n : Nat} {v : Int} (hme : z_me M' n) (hin : Cond.instanceMethod M'.1 ∈ z_tb) (hse : Cond.selects RX8 M'.1 M'.1 ∈ z_tb) (hlk : z_lk M.1.cls idx M') (hrm : z_rm M M') (hd : decode M.2.1 pc = .ok (.invokevirtual idx, 3)) (hT : z_isTG sh 0)
    (hst : st = As.reverse ++ z_r 0 :: rest) (hn : As.length = n) (h1 : ∀ v ∈ As, z_c1 v) (h2 : As.length + 1 ≤ M'.2.2.1) (hw : z_wds rest ≤ 8) (hcc : M'.2.2.2.2.cells = 0 ∧ M'.2.2.2.2.slots = 0) (hu : z_uc M' (z_r 0 :: As) A H T er s v A' H' T' er' s') (h : z_JC w A H T er s)
    (kk : ∀ w', z_JC w' A' H' T' er' s' → (∀ a : Nat, 161 ≤ a → w' a = w a) → z_Sem M nz (pc + 3) L (z_i v :: rest) (sh, w') Q) : z_Sem M nz pc L st (sh, w) Q :=
  z_callV (C := RX8) (T := TX8) (N := 9) hme hin hse (show z_Cl[8]? = some (RX8, TX8, 9) from rfl) hlk hrm hd hT.1 hst hn h1 h2 hw hcc (z_CIm (K := fun x w' => z_Sem M nz (pc + 3) L (z_i x :: rest) (sh, w') Q) (hu sh w _ hT h kk) (fun x w' hk => hk))
end ZGO
