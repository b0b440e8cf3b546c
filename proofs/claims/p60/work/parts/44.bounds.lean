/-! bounds exist -/
theorem z_maxex {P : Int → Prop} {B : Int} (hb : ∀ z, P z → z ≤ B) : ∀ (k : Nat) (z : Int), P z → (B - z).toNat ≤ k → ∃ m, P m ∧ ∀ y, P y → y ≤ m
  | 0, z, hz, hk => ⟨z, hz, fun y hy => by have := hb y hy; have := hb z hz; omega⟩
  | k + 1, z, hz, hk => by
    by_cases h : ∃ y, P y ∧ z < y
    · obtain ⟨y, hy, hlt⟩ := h
      exact z_maxex hb k y hy (by have := hb y hy; omega)
    · exact ⟨z, hz, fun y hy => by
        by_cases c : y ≤ z
        · exact c
        · exact absurd ⟨y, hy, by omega⟩ h⟩
theorem z_IsD_ex {S : z_E} {n B : Int} (hne : ∃ x, z_Fe S x) (hb : ∀ y, z_Fe S y → ∀ a b, z_bl n a → z_bl n b → y b - y a ≤ B) : ∃ d, z_IsD S n d := by
  have h1 : ∀ a b : Int, ∃ m : Int, z_bl n a → z_bl n b → (∃ x, z_Fe S x ∧ x b - x a = m) ∧ ∀ x, z_Fe S x → x b - x a ≤ m := by
    intro a b
    by_cases ha : z_bl n a
    · by_cases hb2 : z_bl n b
      · obtain ⟨x, hx⟩ := hne
        obtain ⟨m, ⟨y, hy, ey⟩, hm⟩ := z_maxex (P := fun z => ∃ x, z_Fe S x ∧ x b - x a = z) (B := B) (fun z ⟨y, hy, ey⟩ => by have := hb y hy a b ha hb2; omega) _ (x b - x a) ⟨x, hx, rfl⟩ (Nat.le_refl _)
        exact ⟨m, fun _ _ => ⟨⟨y, hy, ey⟩, fun u hu => hm _ ⟨u, hu, rfl⟩⟩⟩
      · exact ⟨0, fun _ h => absurd h hb2⟩
    · exact ⟨0, fun h => absurd h ha⟩
  refine ⟨fun a b => Classical.choose (h1 a b), fun a b ha hb2 => ?_⟩
  obtain ⟨h2, h3⟩ := Classical.choose_spec (h1 a b) ha hb2
  exact ⟨h3, h2⟩
/-- the BOUNDs of steps; the weights -/
noncomputable def z_Dd (S : z_E) (n : Int) : Int → Int → Int := Classical.epsilon (fun d => z_IsD S n d)
theorem z_D_is {S : z_E} {n : Int} {d : Int → Int → Int} (h : z_IsD S n d) : z_IsD S n (z_Dd S n) := Classical.epsilon_spec (p := fun d => z_IsD S n d) ⟨d, h⟩
/-- steps of a plan that bears, with a gap left out or not -/
theorem z_F_lo {A : z_A} {lo : Int} {x : Int → Int} (h : z_F A (-1) x) : z_F A lo x := ⟨fun g g0 g1 g2 _ => h.1 g g0 g1 g2 (by omega), h.2.1, h.2.2⟩
/-- a set of steps that is served: in range, feasible, its feasible times near -/
def z_sv (S : z_E) (n : Int) : Prop := (1 ≤ n ∧ n ≤ 10) ∧ z_wf S n ∧ (∃ x, z_Fe S x) ∧ (∀ x, z_Fe S x → ∀ a b, z_bl n a → z_bl n b → x b - x a ≤ 999)
theorem z_sv_A {A : z_A} (hA : z_okg A) (hb : z_bears A) (lo : Int) : z_sv (z_Sx A lo) (A 1 0) := by
  refine ⟨hA.2.1, z_Sx_wf hA lo, ?_, fun x hx a b ha hb2 => ?_⟩
  · obtain ⟨x, hx⟩ := hb
    exact ⟨x, (z_F_iff hA).mpr (z_F_lo hx)⟩
  · have := z_F_near hA ((z_F_iff hA).mp hx) ha hb2
    have := hA.1.2
    omega
theorem z_sv_D {S : z_E} {n : Int} (h : z_sv S n) : z_IsD S n (z_Dd S n) := by
  obtain ⟨d, hd⟩ := z_IsD_ex h.2.2.1 h.2.2.2
  exact z_D_is hd
theorem z_D_R {S : z_E} {n : Int} (h : z_sv S n) {a b : Int} (ha : z_bl n a) (hb : z_bl n b) : -999 ≤ z_Dd S n a b ∧ z_Dd S n a b ≤ 999 := by
  obtain ⟨-, x, hx, ex⟩ := z_sv_D h a b ha hb
  have := h.2.2.2 x hx a b ha hb
  have := h.2.2.2 x hx b a hb ha
  omega
/-- the bounds of a net: its weights are those of the steps S -/
def z_bd (w : z_Mm) (N : Nat) (n : Int) (S : z_E) : Prop := w N 6 = n ∧ z_IsD (z_sc S) n (z_mx w (N + 5))
theorem z_bd.fr {w w' : z_Mm} {N : Nat} {n : Int} {S : z_E} (h : z_bd w N n S) (h1 : w' N = w N) (h2 : w' (N + 5) = w (N + 5)) : z_bd w' N n S := by
  unfold z_bd z_mx
  rw [h1, h2]
  exact h
theorem z_xor64 {x : Int} (hx : z_R x) : 0 ≤ z_xor x 64 ↔ 0 ≤ x := by
  have e : ∀ v : Int32, 0 ≤ v.toInt ↔ v.toBitVec.msb = false := by
    intro v
    rw [← Int32.toInt_toBitVec, BitVec.toInt_eq_msb_cond]
    have := v.toBitVec.isLt
    cases h : v.toBitVec.msb
    · simp
    · simp only [if_true]
      constructor
      · intro q; omega
      · intro q; cases q
  unfold z_xor
  rw [e, Int32.toBitVec_xor, BitVec.msb_xor, show (Int32.ofInt 64).toBitVec.msb = false by decide, Bool.xor_false, ← e, z_toInt hx]
theorem z_td {x : Int} (h : x < 0) : x.tdiv 64 = -((-x) / 64) ∧ x.tmod 64 = -((-x) % 64) := by
  have e1 : (-x).tdiv 64 = -(x.tdiv 64) := Int.neg_tdiv _ _
  have e2 : (-x).tdiv 64 = (-x) / 64 := Int.tdiv_eq_ediv_of_nonneg (by omega)
  have e3 := Int.tmod_def x 64
  omega
theorem z_ffd {w : z_Mm} {x : Int} (hx : z_R x) : f_J9_floorDiv_7cf53 w x 64 = x / 64 := by
  unfold f_J9_floorDiv_7cf53
  have h := z_xor64 hx
  by_cases c : 0 ≤ x
  · rw [if_pos (h.mpr c), Int.tdiv_eq_ediv_of_nonneg c]
  · rw [if_neg (fun q => c (h.mp q))]
    have := z_td (show x < 0 by omega)
    split <;> omega
theorem z_sfd {w : z_Mm} {x : Int} (hx : z_R x) : s_J9_floorDiv_7cf53 w x 64 := by
  unfold s_J9_floorDiv_7cf53
  have hx1 := hx.1
  have hx2 := hx.2
  refine ⟨by decide, fun c => ?_, True.intro⟩
  have h0 : x < 0 := by
    have := z_xor64 hx
    omega
  have := z_td h0
  refine ⟨⟨?_, ?_⟩, fun _ => ⟨⟨?_, ?_⟩, True.intro⟩, True.intro⟩ <;> omega
theorem z_ffm {w : z_Mm} {x : Int} (hx : z_R x) : f_J9_floorMod_7cf53 w x 64 = x % 64 := by
  unfold f_J9_floorMod_7cf53
  have h := z_xor64 hx
  by_cases c : 0 ≤ x
  · rw [if_pos (h.mpr c), Int.tmod_eq_emod_of_nonneg c]
  · rw [if_neg (fun q => c (h.mp q))]
    have := z_td (show x < 0 by omega)
    split <;> omega
theorem z_sfm {w : z_Mm} {x : Int} (hx : z_R x) : s_J9_floorMod_7cf53 w x 64 := by
  unfold s_J9_floorMod_7cf53
  refine ⟨by decide, fun c => ?_, True.intro⟩
  have h0 : x < 0 := by
    have := z_xor64 hx
    omega
  have := z_td h0
  refine ⟨fun _ => ⟨⟨?_, ?_⟩, True.intro⟩, True.intro⟩ <;> omega
section ZB
variable {w : z_Mm} {N : Nat} {n : Int} {S : z_E}
theorem z_bdW (hS : z_sv S n) (h : z_bd w N n S) {a b : Int} (ha : z_bl n a) (hb : z_bl n b) : 64 * z_Dd S n a b ≤ w (N + 5) (a * 10 + b) ∧ w (N + 5) (a * 10 + b) ≤ 64 * z_Dd S n a b + (n - 1) := z_Wq hS.2.1 hS.1 (z_sv_D hS) h.2 ha hb
theorem z_bdR (hS : z_sv S n) (h : z_bd w N n S) {a b : Int} (ha : z_bl n a) (hb : z_bl n b) : z_R (w (N + 5) (a * 10 + b)) := by
  have := z_bdW hS h ha hb
  have := z_D_R hS ha hb
  have := hS.1
  constructor <;> omega
theorem z_fbt (hS : z_sv S n) (h : z_bd w N n S) {a b : Int} (ha : z_bl n a) (hb : z_bl n b) : f_X2_between w N a b = z_Dd S n a b := by
  have h1 := z_bdW hS h ha hb
  have h2 := hS.1
  unfold f_X2_between
  rw [z_ffd (z_bdR hS h ha hb)]
  omega
theorem z_sbt (hS : z_sv S n) (h : z_bd w N n S) {a b : Int} (ha : z_bl n a) (hb : z_bl n b) : s_X2_between w N a b := by
  have h2 := hS.1
  have := ha.1
  have := ha.2
  have := hb.1
  have := hb.2
  exact ⟨⟨by omega, by omega⟩, ⟨by omega, by omega⟩, ⟨by omega, by omega⟩, z_sfd (z_bdR hS h ha hb), True.intro⟩
theorem z_fea (hS : z_sv S n) (h : z_bd w N n S) {a : Int} (ha : z_bl n a) : f_X2_earliest w N a = - z_Dd S n a 0 := by
  have h2 := hS.1
  unfold f_X2_earliest
  rw [z_fbt hS h ha ⟨by omega, by omega⟩]
theorem z_sea (hS : z_sv S n) (h : z_bd w N n S) {a : Int} (ha : z_bl n a) : s_X2_earliest w N a := by
  have h2 := hS.1
  have h0 : z_bl n 0 := ⟨by omega, by omega⟩
  have := z_D_R hS ha h0
  refine ⟨z_sbt hS h ha h0, ?_, True.intro⟩
  rw [z_fbt hS h ha h0]
  constructor <;> omega
theorem z_fla (hS : z_sv S n) (h : z_bd w N n S) {a : Int} (ha : z_bl n a) : f_X2_latest w N a = z_Dd S n 0 a := by
  have h2 := hS.1
  unfold f_X2_latest
  rw [z_fbt hS h ⟨by omega, by omega⟩ ha]
theorem z_sla (hS : z_sv S n) (h : z_bd w N n S) {a : Int} (ha : z_bl n a) : s_X2_latest w N a := by
  have h2 := hS.1
  exact ⟨z_sbt hS h ⟨by omega, by omega⟩ ha, True.intro⟩
theorem z_fpt (hS : z_sv S n) (h : z_bd w N n S) {a : Int} (ha : z_bl n a) : f_X2_possibleTimes w N a = z_Dd S n 0 a + z_Dd S n a 0 + 1 := by
  unfold f_X2_possibleTimes
  rw [z_fea hS h ha, z_fla hS h ha]
  omega
theorem z_spt (hS : z_sv S n) (h : z_bd w N n S) {a : Int} (ha : z_bl n a) : s_X2_possibleTimes w N a := by
  have h2 := hS.1
  have h0 : z_bl n 0 := ⟨by omega, by omega⟩
  have := z_D_R hS ha h0
  have := z_D_R hS h0 ha
  refine ⟨z_sla hS h ha, z_sea hS h ha, ?_, ?_, True.intro⟩
  · rw [z_fea hS h ha, z_fla hS h ha]; constructor <;> omega
  · rw [z_fea hS h ha, z_fla hS h ha]; constructor <;> omega
theorem z_fal (hS : z_sv S n) (h : z_bd w N n S) {a t : Int} (ha : z_bl n a) : f_X2_allows w N a t = if - z_Dd S n a 0 ≤ t ∧ t ≤ z_Dd S n 0 a then 1 else 0 := by
  unfold f_X2_allows
  rw [z_fea hS h ha, z_fla hS h ha]
  repeat' split
  all_goals omega
theorem z_sal (hS : z_sv S n) (h : z_bd w N n S) {a t : Int} (ha : z_bl n a) : s_X2_allows w N a t := ⟨z_sea hS h ha, fun _ => ⟨z_sla hS h ha, True.intro⟩, True.intro⟩
theorem z_flr (hS : z_sv S n) (h : z_bd w N n S) {one oth kd c : Int} (h1 : z_bl n one) (h2 : z_bl n oth) : f_X2_leastRing w N one oth kd c = (if kd = 0 then c else -c) + z_Dd S n (if kd = 0 then oth else one) (if kd = 0 then one else oth) := by
  unfold f_X2_leastRing f_X8_stepLength f_X8_stepFinish f_X8_stepBegin
  rw [z_fbt hS h (by split; exact h2; exact h1) (by split; exact h1; exact h2)]
theorem z_slr (hS : z_sv S n) (h : z_bd w N n S) {one oth kd c : Int} (h1 : z_bl n one) (h2 : z_bl n oth) (hc : 0 ≤ c ∧ c ≤ 999) : s_X2_leastRing w N one oth kd c := by
  have hf : z_bl n (f_X8_stepFinish w one oth kd) := by unfold f_X8_stepFinish; split; exact h2; exact h1
  have hb : z_bl n (f_X8_stepBegin w one oth kd) := by unfold f_X8_stepBegin; split; exact h1; exact h2
  have := z_D_R hS hf hb
  refine ⟨z_sbt hS h hf hb, ⟨fun _ => ⟨⟨by omega, by omega⟩, True.intro⟩, True.intro⟩, ?_, True.intro⟩
  rw [z_fbt hS h hf hb]
  unfold f_X8_stepLength
  split <;> constructor <;> omega
end ZB
/-- a net that is built of a plan -/
def z_net (w : z_Mm) (N : Nat) (A : z_A) (lo : Int) : Prop := z_bd w N (A 1 0) (z_Sx A lo) ∧ w N 5 = ((z_Sx A lo).length : Int) ∧ z_mt w N (z_Sx A lo)
theorem z_net.fr {w w' : z_Mm} {N : Nat} {A : z_A} {lo : Int} (h : z_net w N A lo) (hf : ∀ a : Nat, N ≤ a → a ≤ N + 5 → w' a = w a) : z_net w' N A lo := by
  refine ⟨h.1.fr (hf N (by omega) (by omega)) (hf (N + 5) (by omega) (by omega)), by rw [hf N (by omega) (by omega)]; exact h.2.1, fun k q hq => ?_⟩
  rw [hf (N + 1) (by omega) (by omega), hf (N + 2) (by omega) (by omega), hf (N + 3) (by omega) (by omega), hf (N + 4) (by omega) (by omega)]
  exact h.2.2 k q hq
theorem z_mt.fr {w w' : z_Mm} {N : Nat} {l : z_E} (h : z_mt w N l) (hf : ∀ a : Nat, N + 1 ≤ a → a ≤ N + 4 → w' a = w a) : z_mt w' N l := by
  intro k q hq
  rw [hf (N + 1) (by omega) (by omega), hf (N + 2) (by omega) (by omega), hf (N + 3) (by omega) (by omega), hf (N + 4) (by omega) (by omega)]
  exact h k q hq
theorem c_build {sh : List z_C} {w : z_Mm} {N P : Nat} {A : z_A} {lo : Int} {K : z_Mm → Prop} (hN : z_isNet sh N) (hP : z_isPla sh P) (hA : z_okg A) (hb : z_bears A) (hap : z_ap N P) (hp : z_pg w P A)
    (k : ∀ w', z_net w' N A lo → z_frN w w' N → K w') : z_CV mX2_build [z_r N, z_r P, z_i lo] sh w K := by
  have hsv := z_sv_A hA hb lo
  refine z_CVi (t_X2_build hN hP ?_)
  intro w1 e1
  have f1 : z_frN w w1 N := by rw [e1]; exact z_frNW (by omega)
  have s1 : w1 N 6 = A 1 0 := by rw [e1, z_W_same]; exact hp.2.1
  refine c_collectSteps (lo := lo) hN hP hA hap (hp.frN hap f1) (fun w2 a5 am af a6 => ?_)
  have hnear : ∀ y, z_Fe (z_sc (z_Sx A lo)) y → ∀ a b, z_bl (A 1 0) a → z_bl (A 1 0) b → y b - y a ≤ 64000 := by
    intro y hy a b ha hb2
    have hy' := z_sc_iff.mp hy
    have g : ∀ e, z_bl (A 1 0) e → y e - y 0 ≤ 63937 ∧ y 0 - y e ≤ 1 := by
      intro e he
      by_cases c : e = 0
      · subst c; omega
      · have q1 := hy' (0, e, A 0 0, 100 + e) (by
          simp only [z_Sx, List.mem_append]
          exact Or.inl (Or.inr (z_S2_mem.mpr ⟨e, by have := he.1; omega, by have := he.2; omega, Or.inl rfl⟩)))
        have q2 := hy' (e, 0, 0, 200 + e) (by
          simp only [z_Sx, List.mem_append]
          exact Or.inl (Or.inr (z_S2_mem.mpr ⟨e, by have := he.1; omega, by have := he.2; omega, Or.inr rfl⟩)))
        simp only at q1 q2
        have := hA.1.2
        omega
    have := g a ha
    have := g b hb2
    omega
  refine c_startWeights (S := z_Sx A lo) hN hA.2.1 (a6.trans s1) a5 (z_Sx_len hA lo) hsv.2.1 am (fun q hq => z_Sx_R hA hq) (fun y hy a b ha hb2 => by have := hnear y hy a b ha hb2; omega) (fun w3 b0 bf => ?_)
  obtain ⟨x, hx⟩ := hsv.2.2.1
  have w36 : w3 N 6 = A 1 0 := by rw [bf N (by omega)]; exact a6.trans s1
  refine c_closeWeights hN hA.2.1 w36 (z_sc_wf hsv.2.1) b0 (z_sc_Fe hx) (fun a b ha hb2 => ?_) (fun w4 c0 cf => ?_)
  · have := hnear _ (z_sc_Fe hx) a b ha hb2
    omega
  · refine ⟨w4, rfl, rfl, k w4 ⟨⟨by rw [cf N (by omega)]; exact w36, c0⟩, ?_, ?_⟩ ?_⟩
    · rw [cf N (by omega), bf N (by omega)]; exact a5
    · exact (am.fr (fun a h1 h2 => bf a (by omega))).fr (fun a h1 h2 => cf a (by omega))
    · intro a ha
      rw [cf a (by omega), bf a (by omega), af a ha, f1 a ha]
