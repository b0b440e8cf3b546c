/-! ORDERED and LASTLY -/
/-- v is the first index below n with p, or -2 -/
def z_ffi (p : Int → Prop) (n v : Int) : Prop := (v = -2 ∧ ∀ h : Int, 0 ≤ h → h < n → ¬ p h) ∨ (0 ≤ v ∧ v < n ∧ p v ∧ ∀ h : Int, 0 ≤ h → h < v → ¬ p h)
theorem z_ffi_u {p : Int → Prop} {n v u : Int} (h : z_ffi p n v) (h' : z_ffi p n u) : v = u := by
  rcases h with ⟨a, q⟩ | ⟨a, q, r, s⟩
  · rcases h' with ⟨a', q'⟩ | ⟨a', q', r', s'⟩
    · rw [a, a']
    · exact absurd r' (q u a' q')
  · rcases h' with ⟨a', q'⟩ | ⟨a', q', r', s'⟩
    · exact absurd r (q' v a q)
    · rcases Int.lt_trichotomy v u with c | c | c
      · exact absurd r (s' v a c)
      · exact c
      · exact absurd r' (s u a' c)
noncomputable def z_fi1 (p : Int → Prop) (n : Int) : Int := Classical.epsilon (fun v => z_ffi p n v)
theorem z_fi1_of {p : Int → Prop} {n v : Int} (h : z_ffi p n v) : z_fi1 p n = v := z_ffi_u (Classical.epsilon_spec (p := fun v => z_ffi p n v) ⟨v, h⟩) h
/-- the time of an event: 1 the earliest, 0 the latest -/
noncomputable def z_tme (A : z_A) (how e : Int) : Int := if how = 0 then z_dd A (-1) 0 e else - z_dd A (-1) e 0
def z_ahd (t : Int → Int) (e k : Int) : Prop := t k < t e ∨ (t k = t e ∧ k < e)
theorem z_tme_R {A : z_A} {how e : Int} (hA : z_okg A) (hb : z_bears A) (he : z_bl (A 1 0) e) : -999 ≤ z_tme A how e ∧ z_tme A how e ≤ 999 := by
  have h0 : z_bl (A 1 0) 0 := ⟨Int.le_refl _, by have := hA.2.1; omega⟩
  have ra := z_dd_R (lo := -1) hA hb he h0
  have rb := z_dd_R (lo := -1) hA hb h0 he
  unfold z_tme
  split <;> omega
def z_pli (A : z_A) (how i e : Int) : Prop := z_ct (z_ahd (z_tme A how) e) (A 1 0).toNat = i
noncomputable def z_qo (A : z_A) (how i : Int) : Int := if 0 ≤ i then z_fi1 (z_pli A how i) (A 1 0) else -1
theorem c_placeEarliest {sh : List z_C} {w : z_Mm} {A : z_A} {e : Int} {K : Int → z_Mm → Prop} (hT : z_isTG sh 0) (hA : z_okg A) (hb : z_bears A) (hn : z_net w 12 A (-1)) (he : z_bl (A 1 0) e) (k : K (z_ct (z_ahd (z_tme A 1) e) (A 1 0).toNat) w) : z_CI mX2_placeByEarliest [z_r 12, z_i e] sh w K := by
  have r1 := hA.2.1
  have hsv := z_sv_A hA hb (-1)
  have hN : z_isNet sh 12 := hT.2.2.1
  have p6 : w 12 6 = A 1 0 := hn.1.1
  refine z_CIi (t_X2_placeByEarliest hN ?_)
  refine z_for (n := A 1 0) (i0 := 0) (fun i v => z_Sem mX2_placeByEarliest (sh.length, 0) 4 [(0, z_r 12), (1, z_i e), (2, z_i (z_ct (z_ahd (z_tme A 1) e) i.toNat)), (3, z_i i)] [] (sh, v) _) (fun i v => v = w) (by omega) rfl ?_ ?_
  · rintro v rfl
    exact t_X2_placeByEarliest_4 hN ⟨fun _ => ⟨_, _, rfl, rfl, k⟩, fun c => absurd c (by omega)⟩
  · rintro i v i0 i1 rfl kk
    have kk' := kk v rfl
    have rc := z_ct_R (p := z_ahd (z_tme A 1) e) i.toNat
    have hi : z_bl (A 1 0) i := ⟨i0, i1⟩
    have te := z_tme_R (how := 1) hA hb he
    have ti := z_tme_R (how := 1) hA hb hi
    have v1 : f_X2_earliest v 12 e = z_tme A 1 e := z_fea hsv hn.1 he
    have v2 : f_X2_earliest v 12 i = z_tme A 1 i := z_fea hsv hn.1 hi
    refine t_X2_placeByEarliest_4 hN ⟨fun c => absurd c (by omega), fun _ => ?_⟩
    rw [v1, v2]
    refine ⟨z_sea hsv hn.1 he, z_sea hsv hn.1 hi, ⟨by omega, by omega⟩, fun y5 e5 => ?_⟩
    have ed : (f_X8_asNumber v (if 0 < y5 then 1 else if y5 = 0 then (if e ≤ i then 0 else 1) else 0) = 1 ∧ z_ahd (z_tme A 1) e i) ∨ (f_X8_asNumber v (if 0 < y5 then 1 else if y5 = 0 then (if e ≤ i then 0 else 1) else 0) = 0 ∧ ¬ z_ahd (z_tme A 1) e i) := by
      unfold f_X8_asNumber z_ahd
      (repeat' split) <;> omega
    refine ⟨⟨by omega, by omega⟩, fun y19 e19 => ⟨⟨by omega, by omega⟩, ?_⟩⟩
    rw [z_ct_y (p := z_ahd (z_tme A 1) e) i0 ed e19]
    exact kk'
theorem c_ordered {sh : List z_C} {w : z_Mm} {A : z_A} {H : List z_A} {i : Int} {K : Int → z_Mm → Prop} (hT : z_isTG sh 0) (hs : z_cs w A H) (k : K (z_qo A 1 i) w) : z_CI mX8_ordered [z_r 0, z_i i] sh w K := by
  obtain ⟨hA, hp, hn, -, -⟩ := hs
  have r1 := hA.1.2.1
  have p10 : w 1 10 = A 1 0 := hp.1.2.1
  unfold z_qo at k
  refine z_CIi (t_X8_ordered hT ⟨fun c => ?_, fun c => ?_⟩)
  · rw [if_pos c] at k
    refine z_for (n := A 1 0) (i0 := 0) (fun e v => z_Sem mX8_ordered (sh.length, 0) 8 [(0, z_r 0), (1, z_i i), (2, z_i e)] [] (sh, v) _) (fun e v => v = w ∧ ∀ h : Int, 0 ≤ h → h < e → ¬ z_pli A 1 i h) (by omega) ⟨rfl, fun h h0 h1 => absurd h1 (by omega)⟩ ?_ ?_
    · rintro v ⟨rfl, vn⟩
      rw [z_fi1_of (Or.inl ⟨rfl, vn⟩)] at k
      exact t_X8_ordered_8 hT ⟨fun _ => ⟨_, _, rfl, rfl, k⟩, fun c => absurd c (by omega)⟩
    · rintro e v e0 e1 ⟨rfl, vn⟩ kk
      refine t_X8_ordered_8 hT ⟨fun c => absurd c (by omega), fun _ => c_placeEarliest hT hA.1 hA.2.1 hn ⟨e0, e1⟩ ⟨fun c1 => ?_, fun c1 => ⟨⟨by omega, by omega⟩, kk v ⟨rfl, fun h h0 h1 => ?_⟩⟩⟩⟩
      · rw [z_fi1_of (Or.inr ⟨e0, e1, c1, vn⟩)] at k
        exact ⟨_, _, rfl, rfl, k⟩
      · by_cases q : h = e
        · rw [q]; exact c1
        · exact vn h h0 (by omega)
  · rw [if_neg c] at k
    exact ⟨_, _, rfl, rfl, k⟩
theorem c_placeLatest {sh : List z_C} {w : z_Mm} {A : z_A} {e : Int} {K : Int → z_Mm → Prop} (hT : z_isTG sh 0) (hA : z_okg A) (hb : z_bears A) (hn : z_net w 12 A (-1)) (he : z_bl (A 1 0) e) (k : K (z_ct (z_ahd (z_tme A 0) e) (A 1 0).toNat) w) : z_CI mX2_placeByLatest [z_r 12, z_i e] sh w K := by
  have r1 := hA.2.1
  have hsv := z_sv_A hA hb (-1)
  have hN : z_isNet sh 12 := hT.2.2.1
  have p6 : w 12 6 = A 1 0 := hn.1.1
  refine z_CIi (t_X2_placeByLatest hN ?_)
  refine z_for (n := A 1 0) (i0 := 0) (fun i v => z_Sem mX2_placeByLatest (sh.length, 0) 4 [(0, z_r 12), (1, z_i e), (2, z_i (z_ct (z_ahd (z_tme A 0) e) i.toNat)), (3, z_i i)] [] (sh, v) _) (fun i v => v = w) (by omega) rfl ?_ ?_
  · rintro v rfl
    exact t_X2_placeByLatest_4 hN ⟨fun _ => ⟨_, _, rfl, rfl, k⟩, fun c => absurd c (by omega)⟩
  · rintro i v i0 i1 rfl kk
    have kk' := kk v rfl
    have rc := z_ct_R (p := z_ahd (z_tme A 0) e) i.toNat
    have hi : z_bl (A 1 0) i := ⟨i0, i1⟩
    have te := z_tme_R (how := 0) hA hb he
    have ti := z_tme_R (how := 0) hA hb hi
    have v1 : f_X2_latest v 12 e = z_tme A 0 e := z_fla hsv hn.1 he
    have v2 : f_X2_latest v 12 i = z_tme A 0 i := z_fla hsv hn.1 hi
    refine t_X2_placeByLatest_4 hN ⟨fun c => absurd c (by omega), fun _ => ?_⟩
    rw [v1, v2]
    refine ⟨z_sla hsv hn.1 he, z_sla hsv hn.1 hi, ⟨by omega, by omega⟩, fun y5 e5 => ?_⟩
    have ed : (f_X8_asNumber v (if 0 < y5 then 1 else if y5 = 0 then (if e ≤ i then 0 else 1) else 0) = 1 ∧ z_ahd (z_tme A 0) e i) ∨ (f_X8_asNumber v (if 0 < y5 then 1 else if y5 = 0 then (if e ≤ i then 0 else 1) else 0) = 0 ∧ ¬ z_ahd (z_tme A 0) e i) := by
      unfold f_X8_asNumber z_ahd
      (repeat' split) <;> omega
    refine ⟨⟨by omega, by omega⟩, fun y19 e19 => ⟨⟨by omega, by omega⟩, ?_⟩⟩
    rw [z_ct_y (p := z_ahd (z_tme A 0) e) i0 ed e19]
    exact kk'
theorem c_lastly {sh : List z_C} {w : z_Mm} {A : z_A} {H : List z_A} {i : Int} {K : Int → z_Mm → Prop} (hT : z_isTG sh 0) (hs : z_cs w A H) (k : K (z_qo A 0 i) w) : z_CI mX8_lastly [z_r 0, z_i i] sh w K := by
  obtain ⟨hA, hp, hn, -, -⟩ := hs
  have r1 := hA.1.2.1
  have p10 : w 1 10 = A 1 0 := hp.1.2.1
  unfold z_qo at k
  refine z_CIi (t_X8_lastly hT ⟨fun c => ?_, fun c => ?_⟩)
  · rw [if_pos c] at k
    refine z_for (n := A 1 0) (i0 := 0) (fun e v => z_Sem mX8_lastly (sh.length, 0) 8 [(0, z_r 0), (1, z_i i), (2, z_i e)] [] (sh, v) _) (fun e v => v = w ∧ ∀ h : Int, 0 ≤ h → h < e → ¬ z_pli A 0 i h) (by omega) ⟨rfl, fun h h0 h1 => absurd h1 (by omega)⟩ ?_ ?_
    · rintro v ⟨rfl, vn⟩
      rw [z_fi1_of (Or.inl ⟨rfl, vn⟩)] at k
      exact t_X8_lastly_8 hT ⟨fun _ => ⟨_, _, rfl, rfl, k⟩, fun c => absurd c (by omega)⟩
    · rintro e v e0 e1 ⟨rfl, vn⟩ kk
      refine t_X8_lastly_8 hT ⟨fun c => absurd c (by omega), fun _ => c_placeLatest hT hA.1 hA.2.1 hn ⟨e0, e1⟩ ⟨fun c1 => ?_, fun c1 => ⟨⟨by omega, by omega⟩, kk v ⟨rfl, fun h h0 h1 => ?_⟩⟩⟩⟩
      · rw [z_fi1_of (Or.inr ⟨e0, e1, c1, vn⟩)] at k
        exact ⟨_, _, rfl, rfl, k⟩
      · by_cases q : h = e
        · rw [q]; exact c1
        · exact vn h h0 (by omega)
  · rw [if_neg c] at k
    exact ⟨_, _, rfl, rfl, k⟩
