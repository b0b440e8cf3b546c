/-! IFDROPPED, IFTOLD, IFTURNED, IFPINNED: the class -/
theorem z_fch {w : z_Mm} {p : Int} : f_X8_isChange w p = 0 ↔ ¬ (0 ≤ p ∧ p ≤ 2) := by
  unfold f_X8_isChange
  split
  · omega
  · split <;> omega
theorem z_tb2_of {w : z_Mm} {N : Nat} {n : Int} {S : z_E} (hS : z_sv S n) (hd : z_bd w N n S) : z_tb2 w N n (z_Dd S n) :=
  ⟨hd.1, fun a b ha hb => ⟨z_fbt hS hd ha hb, z_sbt hS hd ha hb, z_D_R hS ha hb⟩⟩
theorem z_tb2_nb {w : z_Mm} {A : z_A} (hA : z_okg A) (hb : z_bears A) (hn : z_nb w A) : z_tb2 w 12 (A 1 0) (z_dd A (-1)) := by
  refine ⟨?_, fun a b ha hb' => ⟨(z_cbt hA hb hn ha hb').1, (z_cbt hA hb hn ha hb').2, z_dd_R hA hb ha hb'⟩⟩
  obtain ⟨S, -, -, hd⟩ := hn
  exact hd.1
theorem z_tb2.cg {w : z_Mm} {N : Nat} {n : Int} {d d' : Int → Int → Int} (h : z_tb2 w N n d) (he : ∀ a b, z_bl n a → z_bl n b → d a b = d' a b) : z_tb2 w N n d' :=
  ⟨h.1, fun a b ha hb => by rw [← he a b ha hb]; exact h.2 a b ha hb⟩
/-- two plans with the same times have the same bounds -/
theorem z_dd_F {A B : z_A} {S : z_E} (hB : z_okg B) (hb : z_bears B) (h1 : B 1 0 = A 1 0) (hS : z_sv S (A 1 0)) (hF : ∀ x, z_Fe S x ↔ z_F B (-1) x) {a b : Int} (ha : z_bl (A 1 0) a) (hb' : z_bl (A 1 0) b) : z_Dd S (A 1 0) a b = z_dd B (-1) a b := by
  have := z_dd_S (A := B) (S := S) (lo := -1) (a := a) (b := b) hB hb (by rw [h1]; exact hS) hF (by rw [h1]; exact ha) (by rw [h1]; exact hb')
  rw [h1] at this
  exact this
noncomputable def z_qid (A : z_A) (g p : Int) : Int := if 0 ≤ g ∧ g < A 2 0 then (if 0 ≤ p ∧ p ≤ 2 then z_tth A (z_cut A g) p else -1) else -1
theorem c_ifDropped {sh : List z_C} {w : z_Mm} {A : z_A} {H : List z_A} {g p : Int} {K : Int → z_Mm → Prop} (hT : z_isTG sh 0) (hs : z_cs w A H) (k : ∀ w', (∀ a : Nat, (a < 18 ∨ 23 < a) → w' a = w a) → K (z_qid A g p) w') : z_CI mX8_ifDropped [z_r 0, z_i g, z_i p] sh w K := by
  obtain ⟨hA, hp, hn, -, -⟩ := hs
  have p11 : w 1 11 = A 2 0 := hp.1.2.2.1
  have hnb := hn.nb hA.1 hA.2.1
  unfold z_qid at k
  refine z_CIi (t_X8_ifDropped hT ⟨fun c => ?_, fun c => ⟨fun c2 => ?_, fun c2 => ?_⟩⟩)
  · rw [z_fgp, p11] at c
    rw [if_neg c] at k
    exact ⟨_, _, rfl, rfl, k w (fun _ _ => rfl)⟩
  · rw [if_neg (c := 0 ≤ p ∧ p ≤ 2) (z_fch.mp c2)] at k
    split at k <;> exact ⟨_, _, rfl, rfl, k w (fun _ _ => rfl)⟩
  · have hg : 0 ≤ g ∧ g < A 2 0 := by
      rw [z_fgp, p11] at c
      omega
    rw [if_pos hg, if_pos (Classical.byContradiction fun q => c2 (z_fch.mpr q))] at k
    have hB := z_okg_cut hA.1 hg.1 hg.2
    have hbB := z_bears_cut hg.1 hg.2 hA.2.1
    rw [z_tth_t hbB] at k
    refine c_try hT hA.1 hA.2.1 hp.1 hnb hg.1 hg.2 (fun w3 S hS hd hF hf => ?_)
    refine c_change hT hA.1.2.1 (z_tb2_nb hA.1 hA.2.1 (hnb.fr (hf 12 (by omega)) (hf 17 (by omega)))) ((z_tb2_of hS hd).cg (fun a b ha hb => z_dd_F hB hbB (z_cut_lt (by omega)) hS (fun x => by rw [hF, z_F_cut hg.1 hg.2]) ha hb)) ⟨_, _, rfl, rfl, k w3 hf⟩
/-- the steps of a plan and one more -/
def z_S1p (A : z_A) (one oth kd n : Int) : z_E := (z_bg kd one oth, z_bg kd oth one, if kd = 0 then n else -n, 0) :: z_Sx A (-1)
theorem z_S1p_sv {A : z_A} {one oth kd n : Int} (hA : z_okg A) (hb : z_bears A) (h1 : z_bl (A 1 0) one) (h2 : z_bl (A 1 0) oth) (hr : 0 ≤ z_lr A (-1) one oth kd n) : z_sv (z_S1p A one oth kd n) (A 1 0) :=
  z_sv_add (z_sv_A hA hb (-1)) (z_bg_bl h1 h2) (z_bg_bl h2 h1) hr
noncomputable def z_qit (A : z_A) (one oth kd n p : Int) : Int :=
  if (0 ≤ one ∧ one < A 1 0) ∧ (0 ≤ oth ∧ oth < A 1 0) ∧ one ≠ oth ∧ (0 ≤ kd ∧ kd ≤ 1) ∧ (0 ≤ n ∧ n ≤ 999) then
    (if 0 ≤ p ∧ p ≤ 2 then (if 0 ≤ z_lr A (-1) one oth kd n then z_cg (z_dd A (-1)) (z_Dd (z_S1p A one oth kd n) (A 1 0)) (A 1 0) p else -5) else -1) else -1
theorem c_ifTold {sh : List z_C} {w : z_Mm} {A : z_A} {one oth kd n p : Int} {K : Int → z_Mm → Prop} (hT : z_isTG sh 0) (hA : z_okg A) (hb : z_bears A) (hp : z_pg w 1 A) (hn : z_net w 12 A (-1)) (k : ∀ w', (∀ a : Nat, (a < 18 ∨ 23 < a) → w' a = w a) → K (z_qit A one oth kd n p) w') : z_CI mX8_ifTold [z_r 0, z_i one, z_i oth, z_i kd, z_i n, z_i p] sh w K := by
  have p10 : w 1 10 = A 1 0 := hp.2.1
  have r1 := hA.2.1
  have h1 := z_ftl (w := w) (one := one) (oth := oth) (kd := kd) (n := n)
  rw [p10] at h1
  have hsv := z_sv_A hA hb (-1)
  have hnb := hn.nb hA hb
  have hN : z_isNet sh 18 := hT.2.2.2.1
  unfold z_qit at k
  refine z_CIi (t_X8_ifTold hT ⟨fun c => ?_, fun c => ⟨fun c2 => ?_, fun c2 => ?_⟩⟩)
  · rw [if_neg (h1.mp c)] at k
    exact ⟨_, _, rfl, rfl, k w (fun _ _ => rfl)⟩
  · rw [if_neg (c := 0 ≤ p ∧ p ≤ 2) (z_fch.mp c2)] at k
    split at k <;> exact ⟨_, _, rfl, rfl, k w (fun _ _ => rfl)⟩
  have d : (0 ≤ one ∧ one < A 1 0) ∧ (0 ≤ oth ∧ oth < A 1 0) ∧ one ≠ oth ∧ (0 ≤ kd ∧ kd ≤ 1) ∧ (0 ≤ n ∧ n ≤ 999) := Classical.byContradiction fun q => c (h1.mpr q)
  obtain ⟨d1, d2, d3, d4, d5⟩ := id d
  rw [if_pos d, if_pos (Classical.byContradiction fun q => c2 (z_fch.mpr q))] at k
  have el : f_X2_leastRing w 12 one oth kd n = z_lr A (-1) one oth kd n := z_flr hsv hn.1 d1 d2
  rw [el]
  refine ⟨z_slr hsv hn.1 d1 d2 d5, fun c3 => ?_, fun c3 => ?_⟩
  · rw [if_pos c3] at k
    refine c_copyB hT hn.1 (by omega) (fun w5 b5 f5 => ?_)
    have sL : s_X8_stepLength w5 kd n := ⟨fun _ => ⟨⟨by omega, by omega⟩, True.intro⟩, True.intro⟩
    refine z_CVi (t_X2_addGapStep hN ⟨sL, ?_⟩)
    have h3 : (-999 : Int) ≤ (if kd = 0 then n else -n) ∧ (if kd = 0 then n else -n) ≤ 999 := by split <;> omega
    refine c_addStep (p := z_bg kd one oth) (q := z_bg kd oth one) (l := if kd = 0 then n else -n) (c := 0) hN hsv b5 (z_bg_bl d1 d2) (z_bg_bl d2 d1) h3 c3 (fun w6 d6 f6 => ⟨_, rfl, rfl, ?_⟩)
    have fr : ∀ a : Nat, (a < 18 ∨ 23 < a) → w6 a = w a := fun a ha => by rw [f6 a (by omega), f5 a (by omega)]
    refine c_change hT r1 (z_tb2_nb hA hb (hnb.fr (fr 12 (by omega)) (fr 17 (by omega)))) (z_tb2_of (z_S1p_sv hA hb d1 d2 c3) d6) ⟨_, _, rfl, rfl, k w6 fr⟩
  · rw [if_neg c3] at k
    exact ⟨_, _, rfl, rfl, k w (fun _ _ => rfl)⟩
noncomputable def z_qitu (A : z_A) (g p : Int) : Int := if 0 ≤ g ∧ g < A 2 0 then (if 0 ≤ p ∧ p ≤ 2 then z_tth A (z_up A 7 g (1 - A 7 g)) p else -1) else -1
theorem z_turn_on {A : z_A} {g p : Int} (hA : z_okg A) (hb : z_bears A) (g0 : 0 ≤ g) (g1 : g < A 2 0) (h7 : A 7 g = 0) (hp : 0 ≤ p ∧ p ≤ 2) : z_qit A (A 3 g) (A 4 g) (A 5 g) (A 6 g) p = z_tth A (z_up A 7 g 1) p := by
  obtain ⟨r1, r2, r3, r4, r5, r6⟩ := hA.2.2.2.1 g g0 g1
  have hring := (z_only_on (A := A) (g := g) (n := 1)).ring hA g0 g1 hb (by rw [z_up_same]; omega)
  rw [z_up_ne (Or.inl (by decide))] at hring
  unfold z_qit
  rw [if_pos ⟨r1, r2, r3, r4, r5⟩, if_pos hp]
  by_cases c : 0 ≤ z_lr A (-1) (A 3 g) (A 4 g) (A 5 g) (A 6 g)
  · have hbB := hring.mpr c
    have hB : z_okg (z_up A 7 g 1) := z_only_on.okg hA (by rw [z_up_ne (Or.inl (by decide))]; exact r5) (by rw [z_up_same]; omega)
    rw [if_pos c, z_tth_t hbB]
    refine z_cg_c hA.2.1.1 (fun a b ha hb' => z_dd_F hB hbB (z_up_ne (Or.inl (by decide))) (z_S1p_sv hA hb r1 r2 c) (fun x => ?_) ha hb')
    rw [z_only_on.F g0 g1]
    have e1 : z_Fg (z_up A 7 g 1) g x ↔ x (z_bg (A 5 g) (A 4 g) (A 3 g)) - x (z_bg (A 5 g) (A 3 g) (A 4 g)) ≤ (if A 5 g = 0 then A 6 g else - A 6 g) := z_Fg_gs (z_up_ne (Or.inl (by decide))) (z_up_ne (Or.inl (by decide))) (z_up_ne (Or.inl (by decide))) (z_up_ne (Or.inl (by decide)))
    have e2 : z_Fe (z_Sx A (-1)) x ↔ z_F A g x := by
      rw [z_F_iff hA, z_F_g g0 g1]
      exact ⟨fun h => h.1, fun h => ⟨h, fun c => absurd h7 c⟩⟩
    rw [e1, ← e2, z_up_same]
    unfold z_S1p z_Fe
    constructor
    · intro h
      exact ⟨fun q hq => h q (List.mem_cons_of_mem _ hq), fun _ => h _ List.mem_cons_self⟩
    · rintro ⟨h, h2⟩ q hq
      rcases List.mem_cons.mp hq with rfl | hq
      · exact h2 (by omega)
      · exact h q hq
  · rw [if_neg c, z_tth_f (fun q => c (hring.mp q))]
theorem c_ifTurned {sh : List z_C} {w : z_Mm} {A : z_A} {H : List z_A} {g p : Int} {K : Int → z_Mm → Prop} (hT : z_isTG sh 0) (hs : z_cs w A H) (k : ∀ w', (∀ a : Nat, (a < 18 ∨ 23 < a) → w' a = w a) → K (z_qitu A g p) w') : z_CI mX8_ifTurned [z_r 0, z_i g, z_i p] sh w K := by
  obtain ⟨hA, hp, hn, -, -⟩ := hs
  have p11 : w 1 11 = A 2 0 := hp.1.2.2.1
  have r2 := hA.1.2.2.1
  have hnb := hn.nb hA.1 hA.2.1
  unfold z_qitu at k
  refine z_CIi (t_X8_ifTurned hT ⟨fun c => ?_, fun c => ⟨fun c2 => ?_, fun c2 => ?_⟩⟩)
  · rw [z_fgp, p11] at c
    rw [if_neg c] at k
    exact ⟨_, _, rfl, rfl, k w (fun _ _ => rfl)⟩
  · rw [if_neg (c := 0 ≤ p ∧ p ≤ 2) (z_fch.mp c2)] at k
    split at k <;> exact ⟨_, _, rfl, rfl, k w (fun _ _ => rfl)⟩
  · have hg : 0 ≤ g ∧ g < A 2 0 := by
      rw [z_fgp, p11] at c
      omega
    have hpp : 0 ≤ p ∧ p ≤ 2 := Classical.byContradiction fun q => c2 (z_fch.mpr q)
    rw [if_pos hg, if_pos hpp] at k
    obtain ⟨v4, v5, v6, v7, v8⟩ := hp.1.2.2.2.1 g hg.1 hg.2
    have e9 : w 9 g = A 7 g := v8
    have r7 := (hA.1.2.2.2.1 g hg.1 hg.2).2.2.2.2.2
    refine ⟨⟨by omega, by omega⟩, fun c3 => ⟨⟨by omega, by omega⟩, ⟨by omega, by omega⟩, ⟨by omega, by omega⟩, ⟨by omega, by omega⟩, ?_⟩, fun c3 => ?_⟩
    · rw [show w 5 g = A 3 g from v4, show w 6 g = A 4 g from v5, show w 7 g = A 5 g from v6, show w 8 g = A 6 g from v7]
      have h7 : A 7 g = 0 := by omega
      rw [show 1 - A 7 g = 1 by omega, ← z_turn_on hA.1 hA.2.1 hg.1 hg.2 h7 hpp] at k
      exact c_ifTold hT hA.1 hA.2.1 hp.1 hn (fun w' f => ⟨_, _, rfl, rfl, k w' f⟩)
    · have h7 : A 7 g = 1 := by omega
      obtain ⟨hB, hbB, hFB⟩ := z_off_F hA.1 hA.2.1 hg.1 hg.2
      rw [show 1 - A 7 g = 0 by omega, z_tth_t hbB] at k
      refine c_try hT hA.1 hA.2.1 hp.1 hnb hg.1 hg.2 (fun w3 S hS hd hF hf => ?_)
      refine c_change hT hA.1.2.1 (z_tb2_nb hA.1 hA.2.1 (hnb.fr (hf 12 (by omega)) (hf 17 (by omega)))) ((z_tb2_of hS hd).cg (fun a b ha hb => z_dd_F hB hbB (z_up_ne (Or.inl (by decide))) hS (fun x => by rw [hF, hFB]) ha hb)) ⟨_, _, rfl, rfl, k w3 hf⟩
noncomputable def z_qip (A : z_A) (e t p : Int) : Int := if (0 ≤ e ∧ e < A 1 0) ∧ (0 ≤ t ∧ t ≤ A 0 0) ∧ (0 ≤ p ∧ p ≤ 2) then (if e = 0 ∨ A 8 e ≠ -1 then -3 else z_tth A (z_up A 8 e t) p) else -1
theorem c_ifPinned {sh : List z_C} {w : z_Mm} {A : z_A} {H : List z_A} {e t p : Int} {K : Int → z_Mm → Prop} (hT : z_isTG sh 0) (hs : z_cs w A H) (k : ∀ w', (∀ a : Nat, (a < 18 ∨ 23 < a) → w' a = w a) → K (z_qip A e t p) w') : z_CI mX8_ifPinned [z_r 0, z_i e, z_i t, z_i p] sh w K := by
  obtain ⟨hA, hp, hn, -, -⟩ := hs
  have hsv := z_sv_A hA.1 hA.2.1 (-1)
  have p9 : w 1 9 = A 0 0 := hp.1.1
  have p10 : w 1 10 = A 1 0 := hp.1.2.1
  have r0 := hA.1.1
  have r1 := hA.1.2.1
  have hnb := hn.nb hA.1 hA.2.1
  have hN : z_isNet sh 18 := hT.2.2.2.1
  unfold z_qip at k
  refine z_CIi (t_X8_ifPinned hT ⟨fun c => ?_, fun c => ⟨fun c2 => ?_, fun c2 => ⟨fun c2' => ?_, fun c2' => ?_⟩⟩⟩)
  · rw [z_fev, p10] at c
    rw [if_neg (fun q => c q.1)] at k
    exact ⟨_, _, rfl, rfl, k w (fun _ _ => rfl)⟩
  · rw [z_fti, p9] at c2
    rw [if_neg (fun q => c2 q.2.1)] at k
    exact ⟨_, _, rfl, rfl, k w (fun _ _ => rfl)⟩
  · rw [if_neg (fun q => (z_fch.mp c2') q.2.2)] at k
    exact ⟨_, _, rfl, rfl, k w (fun _ _ => rfl)⟩
  have he : 0 ≤ e ∧ e < A 1 0 := by
    rw [z_fev, p10] at c
    omega
  have ht : 0 ≤ t ∧ t ≤ A 0 0 := by
    rw [z_fti, p9] at c2
    omega
  rw [if_pos ⟨he, ht, Classical.byContradiction fun q => c2' (z_fch.mpr q)⟩] at k
  have hip : f_X8_isPinnable w e = 0 ↔ (e = 0 ∨ A 8 e ≠ -1) := by
    unfold f_X8_isPinnable
    rw [z_fipn hp.1 he.1 he.2]
    split
    · omega
    · by_cases q : A 8 e = -1
      · simp [q]; assumption
      · simp [q]
  refine ⟨⟨fun _ => ⟨⟨⟨he.1, by omega⟩, True.intro⟩, True.intro⟩, True.intro⟩, fun c3 => ?_, fun c3 => ?_⟩
  · rw [if_pos (hip.mp c3)] at k
    exact ⟨_, _, rfl, rfl, k w (fun _ _ => rfl)⟩
  have hne := fun q => c3 (hip.mpr q)
  rw [if_neg hne] at k
  have e1 : 1 ≤ e := by
    have : ¬ e = 0 := fun q => hne (Or.inl q)
    omega
  have hu : A 8 e = -1 := Classical.byContradiction fun q => hne (Or.inr q)
  have hiff := z_pin_iff hA.1 hA.2.1 e1 he.2 hu ht.1
  refine ⟨z_sal hsv hn.1 he, fun c4 => ?_, fun c4 => ?_⟩
  · rw [z_fal hsv hn.1 he] at c4
    have nb : ¬ z_bears (z_up A 8 e t) := fun hb => by rw [if_pos (hiff.mp hb)] at c4; omega
    rw [z_tth_f nb] at k
    exact ⟨_, _, rfl, rfl, k w (fun _ _ => rfl)⟩
  · rw [z_fal hsv hn.1 he] at c4
    have hbB : z_bears (z_up A 8 e t) := Classical.byContradiction fun nb => c4 (if_neg (fun q => nb (hiff.mpr q)))
    have hB : z_okg (z_up A 8 e t) := z_okg_pin hA.1 (by omega) (by omega)
    obtain ⟨q1, q2⟩ := hiff.mp hbB
    rw [z_tth_t hbB] at k
    refine c_copyB hT hn.1 (by omega) (fun w8 b8 f8 => ?_)
    refine c_addPin hN hsv b8 he q1 q2 (fun w9 d9 f9 => ?_)
    have fr : ∀ a : Nat, (a < 18 ∨ 23 < a) → w9 a = w a := fun a ha => by rw [f9 a (by omega), f8 a (by omega)]
    refine c_change hT r1 (z_tb2_nb hA.1 hA.2.1 (hnb.fr (fr 12 (by omega)) (fr 17 (by omega)))) ((z_tb2_of (z_S2p_sv hsv he q1 q2) d9).cg (fun a b ha hb => z_dd_F hB hbB z_pu1 (z_S2p_sv hsv he q1 q2) (fun x => ?_) ha hb)) ⟨_, _, rfl, rfl, k w9 fr⟩
    rw [z_S2p_F, z_F_iff hA.1, z_F_pin e1 he.2 hu (by omega)]
