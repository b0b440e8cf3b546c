/-! TIGHTEN: the methods -/
theorem z_nb.tp {w : z_Mm} {A : z_A} {j : Int} (h : z_nb w A) (hA : z_okg A) (hb : z_bears A) : z_nb w (z_tp A j) := by
  obtain ⟨S, h1, h2, h3⟩ := h
  unfold z_nb
  rw [z_tp_ne (ch := 1) (by omega)]
  exact ⟨S, h1, fun x => by rw [z_F_tp hA hb, h2], h3⟩
theorem z_gs_tpi {A : z_A} {i j : Int} (h : j ≤ i) : z_gs (z_tp A j) i = z_gs A i := z_gs_tp.2.2.1 (z_tp_ne (Or.inr (Or.inl h)))
theorem z_tg_tp {A : z_A} {i j : Int} (hA : z_okg A) (hb : z_bears A) (h : j ≤ i) (i0 : 0 ≤ i) (i1 : i < A 2 0) : z_tg (z_tp A j) i ↔ z_tg A i := by
  obtain ⟨b1, b2, -, -⟩ := z_gs_bl hA i0 i1
  unfold z_tg
  rw [z_gs_tpi h, z_tp_ne (ch := 7) (by omega), z_dd_tp hA hb b1 b2]
theorem z_clo {w : z_Mm} {A : z_A} {i j : Int} (hA : z_okg A) (hb : z_bears A) (hp : z_pg w 1 (z_tp A j)) (hn : z_nb w A) (h : j ≤ i) (i0 : 0 ≤ i) (i1 : i < A 2 0) :
    (f_X8_isLoose w i = 0 ↔ ¬ z_lse A i) ∧ f_X8_tightNumber w i = z_tnb A i ∧ s_X8_isLoose w i ∧ s_X8_tightNumber w i ∧ (0 ≤ f_X8_isLoose w i ∧ f_X8_isLoose w i ≤ 1) := by
  obtain ⟨b1, b2, -, -⟩ := z_gs_bl hA i0 i1
  have r2 := hA.2.2.1
  have hB := z_okg_tp (i := j) hA hb
  have hbB := z_bears_tp (i := j) hA hb
  have hnB : z_nb w (z_tp A j) := hn.tp hA hb
  have i1B : i < z_tp A j 2 0 := by rw [z_tp_ne (ch := 2) (by omega)]; exact i1
  obtain ⟨v4, v5, v6, v7, v8⟩ := hp.2.2.2.1 i i0 i1B
  have e7 : w 7 i = A 5 i := v6.trans (z_tp_ne (by omega))
  have e9 : w 9 i = A 7 i := v8.trans (z_tp_ne (by omega))
  have eb : f_X8_boundOf w i = z_dd A (-1) (z_gs A i).1 (z_gs A i).2.1 := by rw [z_cbo hB hbB hp hnB i0 i1B, z_gs_tpi h, z_dd_tp hA hb b1 b2]
  have et : f_X8_isTight w i = 0 ↔ ¬ z_tg A i := by rw [z_cti hB hbB hp hnB i0 i1B, z_tg_tp hA hb h i0 i1]
  have en : f_X8_tightNumber w i = z_tnb A i := by
    unfold f_X8_tightNumber z_tnb
    rw [eb, e7]
  have rn := z_tn_R hA hb i0 i1
  have rd := z_dd_R (lo := -1) hA hb b1 b2
  have st : s_X8_isTight w i := z_scti hB hbB hp hnB i0 i1B
  have sb : s_X8_boundOf w i := z_scbo hB hbB hp hnB i0 i1B
  have sn : s_X8_tightNumber w i := ⟨⟨i0, by omega⟩, fun _ => ⟨sb, True.intro⟩, fun _ => ⟨sb, by rw [eb]; exact ⟨by omega, by omega⟩, True.intro⟩, True.intro⟩
  refine ⟨?_, en, ⟨⟨i0, by omega⟩, fun _ => ⟨st, fun _ => ⟨sn, True.intro⟩, True.intro⟩, True.intro⟩, sn, ?_⟩
  · unfold f_X8_isLoose z_lse
    rw [en, e9]
    by_cases c1 : A 7 i = 0
    · rw [if_pos c1]
      exact ⟨fun _ q => q.1 c1, fun _ => rfl⟩
    · rw [if_neg c1]
      by_cases c2 : f_X8_isTight w i = 0
      · rw [if_pos c2]
        have := et.mp c2
        by_cases c3 : z_tnb A i < 0
        · rw [if_pos c3]
          exact ⟨fun _ q => absurd q.2.2 (by omega), fun _ => rfl⟩
        · rw [if_neg c3]
          exact ⟨fun q => absurd q (by decide), fun q => absurd ⟨c1, this, by omega⟩ q⟩
      · rw [if_neg c2]
        have : z_tg A i := Classical.byContradiction fun q => c2 (et.mpr q)
        exact ⟨fun _ q => q.2.1 this, fun _ => rfl⟩
  · unfold f_X8_isLoose
    split
    · omega
    · split
      · split <;> omega
      · omega
noncomputable def z_dtight (A : z_A) (H : List z_A) : Int × z_A × List z_A :=
  if z_cl A (A 2 0).toNat = 0 then (-2, A, H) else (z_cl A (A 2 0).toNat, z_note (z_tp A (A 2 0)) 11 (z_cl A (A 2 0).toNat) (z_ro A (A 1 0).toNat), z_push H A)
theorem c_tighten {sh : List z_C} {w : z_Mm} {A : z_A} {H : List z_A} {K : Int → z_Mm → Prop} (hT : z_isTG sh 0) (hs : z_cs w A H)
    (k : ∀ w', z_cs w' (z_dtight A H).2.1 (z_dtight A H).2.2 → z_frC w w' → K (z_dtight A H).1 w') : z_CI mX8_tighten [z_r 0] sh w K := by
  obtain ⟨hA, hp, hn, hok, hh⟩ := id hs
  have r2 := hA.1.2.2.1
  have hnb := hn.nb hA.1 hA.2.1
  have p11 : w 1 11 = A 2 0 := hp.1.2.2.1
  unfold z_dtight at k
  refine z_CIi (t_X8_tighten hT ?_)
  refine z_for (n := A 2 0) (i0 := 0) (fun i v => z_Sem mX8_tighten (sh.length, 0) 4 [(0, z_r 0), (1, z_i (z_cl A i.toNat)), (2, z_i i)] [] (sh, v) _)
    (fun i v => v = w) (by omega) rfl ?_ ?_
  · rintro v rfl
    refine t_X8_tighten_4 hT ⟨fun _ => ⟨fun c => ?_, fun c => ?_⟩, fun c => absurd c (by omega)⟩
    · rw [if_pos c] at k
      exact ⟨_, _, rfl, rfl, k v hs z_frC.rf⟩
    · rw [if_neg c] at k
      refine c_rem hT hs (fun w3 q1 q2 q3 q4 q5 => ?_)
      have hn3 : z_nb w3 A := hnb.fr (q5 12 (by omega)) (q5 17 (by omega))
      refine z_for (n := A 2 0) (i0 := 0) (fun i v => z_Sem mX8_tighten (sh.length, 0) 52 [(0, z_r 0), (1, z_i (z_cl A (A 2 0).toNat)), (2, z_i i)] [] (sh, v) _)
        (fun i u => z_pr u 1 (z_tp A i) ∧ ∀ a : Nat, (a < 1 ∨ 11 < a) → u a = w3 a) (by omega) ⟨by rw [z_tp_0]; exact q1, fun _ _ => rfl⟩ ?_ ?_
      · rintro u ⟨up, uf⟩
        have u11 : u 1 11 = A 2 0 := up.1.2.2.1.trans (z_tp_ne (by omega))
        refine t_X8_tighten_52 hT ⟨fun _ => ?_, fun c => absurd c (by omega)⟩
        refine c_room hT hA.1 hA.2.1 (hn3.fr (uf 12 (by omega)) (uf 17 (by omega))) ?_
        have hB : z_ok (z_tp A (A 2 0)) := ⟨z_okg_tp hA.1 hA.2.1, z_bears_tp hA.1 hA.2.1, z_okn_tp hA.2.2⟩
        refine c_finish hT hB up (q2.fr (fun C hC => (q3 C hC).1) (fun a a0 a1 => uf a (by omega))) q3 (fun w' c1 c2 => ⟨_, _, rfl, rfl, k w' c1 ((q4.trans (fun a ha => uf a (by omega))).trans c2)⟩)
      · rintro i u i0 i1 ⟨up, uf⟩ kk
        have u11 : u 1 11 = A 2 0 := up.1.2.2.1.trans (z_tp_ne (by omega))
        obtain ⟨l1, l2, l3, l4, -⟩ := z_clo hA.1 hA.2.1 up.1 (hn3.fr (uf 12 (by omega)) (uf 17 (by omega))) (Int.le_refl i) i0 i1
        refine t_X8_tighten_52 hT ⟨fun c => absurd c (by omega), fun _ => ⟨l3, fun c => ⟨⟨by omega, by omega⟩, kk u ⟨by rw [← z_tp_no (l1.mp c)]; exact up, uf⟩⟩, fun c => ⟨l4, ⟨i0, by omega⟩, fun w9 e9 => ⟨⟨by omega, by omega⟩, kk w9 ⟨?_, fun a ha => by rw [e9, z_Wf (by omega), uf a ha]⟩⟩⟩⟩⟩
        have hl : z_lse A i := Classical.byContradiction fun q => c (l1.mpr q)
        rw [e9, l2, ← z_tp_up i0 hl]
        exact z_pr_num (P := 1) up
  · rintro i v i0 i1 rfl kk
    obtain ⟨l1, l2, l3, l4, l5⟩ := z_clo hA.1 hA.2.1 (j := 0) (by rw [z_tp_0]; exact hp.1) hnb i0 i0 i1
    have rc := z_cl_R (A := A) i.toNat
    have rs := z_cl_s (A := A) i0
    have ea := z_asn (w := v) l5
    refine t_X8_tighten_4 hT ⟨fun c => absurd c (by omega), fun _ => ⟨l3, by rw [ea]; exact ⟨by omega, by omega⟩, fun y6 e6 => ⟨⟨by omega, by omega⟩, ?_⟩⟩⟩
    have kk' := kk v rfl
    rw [ea] at e6
    have ey : y6 = z_cl A (i + 1).toNat := by
      by_cases q : z_lse A i
      · have : ¬ f_X8_isLoose v i = 0 := fun c => (l1.mp c) q
        rw [rs.1 q]; omega
      · have := l1.mpr q
        rw [rs.2 q]; omega
    rw [ey]
    exact kk'
