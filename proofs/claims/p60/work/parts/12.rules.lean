theorem z_pure2 {M : z_M} {nz : Nat × Nat} {pc pc1 pc2 : Nat} {L : List (Nat × z_V)} {st st' : List z_V} {σ : z_S} {Q : Option z_V → z_S → Prop} {P : Prop}
    (h : ∀ (G : z_G) (p : Program) (l : Launch) (e : Env) (s : State) (m : MethodId) (args : Array Value) (below : List Frame) (meth : Method) (c : Code) (Z : State → Prop) (H : Heap) (locs : List Loc) (ls : Array Slot), z_X G M nz.1 p s m args meth c → (∀ q ∈ st, z_Rv q) →
      (P → W p l e M.2.2.2.2 s m args below meth c H locs nz.2 nz.2 Z (F0 m pc1 ls (st'.map (z_cv G)))) → (¬ P → W p l e M.2.2.2.2 s m args below meth c H locs nz.2 nz.2 Z (F0 m pc2 ls (st'.map (z_cv G)))) → W p l e M.2.2.2.2 s m args below meth c H locs nz.2 nz.2 Z (F0 m pc ls (st.map (z_cv G))))
    (hS' : (∀ q ∈ st, z_Rv q) → ∀ q ∈ st', z_Rv q)
    (k1 : P → z_Sem M nz pc1 L st' σ Q) (k2 : ¬ P → z_Sem M nz pc2 L st' σ Q) : z_Sem M nz pc L st σ Q := by
  intro G p l e s m args below meth c Z H locs ls hX hZ hP hL hS hl hc
  exact h G p l e s m args below meth c Z H locs ls hX hS (fun hp => k1 hp G p l e s m args below meth c Z H locs ls hX hZ hP hL (hS' hS) hl hc) (fun hp => k2 hp G p l e s m args below meth c Z H locs ls hX hZ hP hL (hS' hS) hl hc)
section ZRULES2
variable {M : z_M} {nz : Nat × Nat} {pc : Nat} {L : List (Nat × z_V)} {st : List z_V} {σ : z_S} {Q : Option z_V → z_S → Prop}

theorem z_icmp_eq {x y off : Int} {tgt : Nat} (hd : decode M.2.1 pc = .ok (.if_icmp .eq off, 3)) (ht : (pc : Int) + off = (tgt : Int)) (kt : x = y → z_Sem M nz tgt L st σ Q) (kf : ¬ x = y → z_Sem M nz (pc + 3) L st σ Q) : z_Sem M nz pc L (z_i y :: z_i x :: st) σ Q := by
  refine z_pure2 (P := x = y) ?_ (fun h => (z_RvC (z_RvC h).2).2) kt kf
  intro G p l e s m args below meth c Z H locs ls hX hS k1 k2
  have hy : z_R y := (z_RvC hS).1
  have hx : z_R x := (z_RvC (z_RvC hS).2).1
  exact lv_icmp_eq hX.1 hX.2.1 hd ht (fun h => k1 ((z_eq hx hy).mp h)) (fun h => k2 (fun q => h ((z_eq hx hy).mpr q)))
theorem z_if_eq {x off : Int} {tgt : Nat} (hd : decode M.2.1 pc = .ok (.ifCond .eq off, 3)) (ht : (pc : Int) + off = (tgt : Int)) (kt : x = 0 → z_Sem M nz tgt L st σ Q) (kf : ¬ x = 0 → z_Sem M nz (pc + 3) L st σ Q) : z_Sem M nz pc L (z_i x :: st) σ Q := by
  refine z_pure2 (P := x = 0) ?_ (fun h => (z_RvC h).2) kt kf
  intro G p l e s m args below meth c Z H locs ls hX hS k1 k2
  have hx : z_R x := (z_RvC hS).1
  exact lv_if_eq hX.1 hX.2.1 hd ht (fun h => k1 ((z_eq hx z_zero).mp (by rw [← z_of0]; exact h))) (fun h => k2 (fun q => h (by rw [z_of0]; exact (z_eq hx z_zero).mpr q)))
theorem z_icmp_ne {x y off : Int} {tgt : Nat} (hd : decode M.2.1 pc = .ok (.if_icmp .ne off, 3)) (ht : (pc : Int) + off = (tgt : Int)) (kt : ¬ x = y → z_Sem M nz tgt L st σ Q) (kf : x = y → z_Sem M nz (pc + 3) L st σ Q) : z_Sem M nz pc L (z_i y :: z_i x :: st) σ Q := by
  refine z_pure2 (P := ¬ x = y) ?_ (fun h => (z_RvC (z_RvC h).2).2) kt (fun h => kf (Decidable.of_not_not h))
  intro G p l e s m args below meth c Z H locs ls hX hS k1 k2
  have hy : z_R y := (z_RvC hS).1
  have hx : z_R x := (z_RvC (z_RvC hS).2).1
  exact lv_icmp_ne hX.1 hX.2.1 hd ht (fun h => k1 (fun q => h ((z_eq hx hy).mpr q))) (fun h => k2 (fun q => q ((z_eq hx hy).mp h)))
theorem z_if_ne {x off : Int} {tgt : Nat} (hd : decode M.2.1 pc = .ok (.ifCond .ne off, 3)) (ht : (pc : Int) + off = (tgt : Int)) (kt : ¬ x = 0 → z_Sem M nz tgt L st σ Q) (kf : x = 0 → z_Sem M nz (pc + 3) L st σ Q) : z_Sem M nz pc L (z_i x :: st) σ Q := by
  refine z_pure2 (P := ¬ x = 0) ?_ (fun h => (z_RvC h).2) kt (fun h => kf (Decidable.of_not_not h))
  intro G p l e s m args below meth c Z H locs ls hX hS k1 k2
  have hx : z_R x := (z_RvC hS).1
  exact lv_if_ne hX.1 hX.2.1 hd ht (fun h => k1 (fun q => h (by rw [z_of0]; exact (z_eq hx z_zero).mpr q))) (fun h => k2 (fun q => q ((z_eq hx z_zero).mp (by rw [← z_of0]; exact h))))
theorem z_icmp_lt {x y off : Int} {tgt : Nat} (hd : decode M.2.1 pc = .ok (.if_icmp .lt off, 3)) (ht : (pc : Int) + off = (tgt : Int)) (kt : x < y → z_Sem M nz tgt L st σ Q) (kf : ¬ x < y → z_Sem M nz (pc + 3) L st σ Q) : z_Sem M nz pc L (z_i y :: z_i x :: st) σ Q := by
  refine z_pure2 (P := x < y) ?_ (fun h => (z_RvC (z_RvC h).2).2) kt kf
  intro G p l e s m args below meth c Z H locs ls hX hS k1 k2
  have hy : z_R y := (z_RvC hS).1
  have hx : z_R x := (z_RvC (z_RvC hS).2).1
  exact lv_icmp_lt hX.1 hX.2.1 hd ht (fun h => k1 ((z_lt hx hy).mp h)) (fun h => k2 (fun q => h ((z_lt hx hy).mpr q)))
theorem z_if_lt {x off : Int} {tgt : Nat} (hd : decode M.2.1 pc = .ok (.ifCond .lt off, 3)) (ht : (pc : Int) + off = (tgt : Int)) (kt : x < 0 → z_Sem M nz tgt L st σ Q) (kf : ¬ x < 0 → z_Sem M nz (pc + 3) L st σ Q) : z_Sem M nz pc L (z_i x :: st) σ Q := by
  refine z_pure2 (P := x < 0) ?_ (fun h => (z_RvC h).2) kt kf
  intro G p l e s m args below meth c Z H locs ls hX hS k1 k2
  have hx : z_R x := (z_RvC hS).1
  exact lv_if_lt hX.1 hX.2.1 hd ht (fun h => k1 ((z_lt hx z_zero).mp (by rw [← z_of0]; exact h))) (fun h => k2 (fun q => h (by rw [z_of0]; exact (z_lt hx z_zero).mpr q)))
theorem z_icmp_ge {x y off : Int} {tgt : Nat} (hd : decode M.2.1 pc = .ok (.if_icmp .ge off, 3)) (ht : (pc : Int) + off = (tgt : Int)) (kt : y ≤ x → z_Sem M nz tgt L st σ Q) (kf : ¬ y ≤ x → z_Sem M nz (pc + 3) L st σ Q) : z_Sem M nz pc L (z_i y :: z_i x :: st) σ Q := by
  refine z_pure2 (P := y ≤ x) ?_ (fun h => (z_RvC (z_RvC h).2).2) kt kf
  intro G p l e s m args below meth c Z H locs ls hX hS k1 k2
  have hy : z_R y := (z_RvC hS).1
  have hx : z_R x := (z_RvC (z_RvC hS).2).1
  exact lv_icmp_ge hX.1 hX.2.1 hd ht (fun h => k1 ((z_le hy hx).mp h)) (fun h => k2 (fun q => h ((z_le hy hx).mpr q)))
theorem z_if_ge {x off : Int} {tgt : Nat} (hd : decode M.2.1 pc = .ok (.ifCond .ge off, 3)) (ht : (pc : Int) + off = (tgt : Int)) (kt : 0 ≤ x → z_Sem M nz tgt L st σ Q) (kf : ¬ 0 ≤ x → z_Sem M nz (pc + 3) L st σ Q) : z_Sem M nz pc L (z_i x :: st) σ Q := by
  refine z_pure2 (P := 0 ≤ x) ?_ (fun h => (z_RvC h).2) kt kf
  intro G p l e s m args below meth c Z H locs ls hX hS k1 k2
  have hx : z_R x := (z_RvC hS).1
  exact lv_if_ge hX.1 hX.2.1 hd ht (fun h => k1 ((z_le z_zero hx).mp (by rw [← z_of0]; exact h))) (fun h => k2 (fun q => h (by rw [z_of0]; exact (z_le z_zero hx).mpr q)))
theorem z_icmp_gt {x y off : Int} {tgt : Nat} (hd : decode M.2.1 pc = .ok (.if_icmp .gt off, 3)) (ht : (pc : Int) + off = (tgt : Int)) (kt : y < x → z_Sem M nz tgt L st σ Q) (kf : ¬ y < x → z_Sem M nz (pc + 3) L st σ Q) : z_Sem M nz pc L (z_i y :: z_i x :: st) σ Q := by
  refine z_pure2 (P := y < x) ?_ (fun h => (z_RvC (z_RvC h).2).2) kt kf
  intro G p l e s m args below meth c Z H locs ls hX hS k1 k2
  have hy : z_R y := (z_RvC hS).1
  have hx : z_R x := (z_RvC (z_RvC hS).2).1
  exact lv_icmp_gt hX.1 hX.2.1 hd ht (fun h => k1 ((z_lt hy hx).mp h)) (fun h => k2 (fun q => h ((z_lt hy hx).mpr q)))
theorem z_if_gt {x off : Int} {tgt : Nat} (hd : decode M.2.1 pc = .ok (.ifCond .gt off, 3)) (ht : (pc : Int) + off = (tgt : Int)) (kt : 0 < x → z_Sem M nz tgt L st σ Q) (kf : ¬ 0 < x → z_Sem M nz (pc + 3) L st σ Q) : z_Sem M nz pc L (z_i x :: st) σ Q := by
  refine z_pure2 (P := 0 < x) ?_ (fun h => (z_RvC h).2) kt kf
  intro G p l e s m args below meth c Z H locs ls hX hS k1 k2
  have hx : z_R x := (z_RvC hS).1
  exact lv_if_gt hX.1 hX.2.1 hd ht (fun h => k1 ((z_lt z_zero hx).mp (by rw [← z_of0]; exact h))) (fun h => k2 (fun q => h (by rw [z_of0]; exact (z_lt z_zero hx).mpr q)))
theorem z_icmp_le {x y off : Int} {tgt : Nat} (hd : decode M.2.1 pc = .ok (.if_icmp .le off, 3)) (ht : (pc : Int) + off = (tgt : Int)) (kt : x ≤ y → z_Sem M nz tgt L st σ Q) (kf : ¬ x ≤ y → z_Sem M nz (pc + 3) L st σ Q) : z_Sem M nz pc L (z_i y :: z_i x :: st) σ Q := by
  refine z_pure2 (P := x ≤ y) ?_ (fun h => (z_RvC (z_RvC h).2).2) kt kf
  intro G p l e s m args below meth c Z H locs ls hX hS k1 k2
  have hy : z_R y := (z_RvC hS).1
  have hx : z_R x := (z_RvC (z_RvC hS).2).1
  exact lv_icmp_le hX.1 hX.2.1 hd ht (fun h => k1 ((z_le hx hy).mp h)) (fun h => k2 (fun q => h ((z_le hx hy).mpr q)))
theorem z_if_le {x off : Int} {tgt : Nat} (hd : decode M.2.1 pc = .ok (.ifCond .le off, 3)) (ht : (pc : Int) + off = (tgt : Int)) (kt : x ≤ 0 → z_Sem M nz tgt L st σ Q) (kf : ¬ x ≤ 0 → z_Sem M nz (pc + 3) L st σ Q) : z_Sem M nz pc L (z_i x :: st) σ Q := by
  refine z_pure2 (P := x ≤ 0) ?_ (fun h => (z_RvC h).2) kt kf
  intro G p l e s m args below meth c Z H locs ls hX hS k1 k2
  have hx : z_R x := (z_RvC hS).1
  exact lv_if_le hX.1 hX.2.1 hd ht (fun h => k1 ((z_le hx z_zero).mp (by rw [← z_of0]; exact h))) (fun h => k2 (fun q => h (by rw [z_of0]; exact (z_le hx z_zero).mpr q)))
theorem z_tab {x dflt lo hi : Int} {offs : Array Int} {len tgd : Nat} (hd : decode M.2.1 pc = .ok (.tableswitch dflt lo hi offs, len)) (htd : (pc : Int) + dflt = (tgd : Int))
    (kin : lo ≤ x → x ≤ hi → ∃ (off : Int) (tgt : Nat), offs[(x - lo).toNat]? = some off ∧ (pc : Int) + off = (tgt : Int) ∧ z_Sem M nz tgt L st σ Q) (kout : (x < lo ∨ hi < x) → z_Sem M nz tgd L st σ Q) : z_Sem M nz pc L (z_i x :: st) σ Q := by
  intro G p l e s m args below meth c Z H locs ls hX hZ hP hL hS hl hc
  have hx : z_R x := (z_RvC hS).1
  by_cases h : x < lo ∨ hi < x
  · exact lv_tableOut hX.1 hX.2.1 hd (by rw [z_toInt hx]; exact h) htd (kout h G p l e s m args below meth c Z H locs ls hX hZ hP hL (z_RvC hS).2 hl hc)
  · obtain ⟨off, tgt, h1, h2, h3⟩ := kin (by omega) (by omega)
    exact lv_tableIn hX.1 hX.2.1 hd (by rw [z_toInt hx]; omega) (by rw [z_toInt hx]; omega) (by rw [z_toInt hx]; exact h1) h2 (h3 G p l e s m args below meth c Z H locs ls hX hZ hP hL (z_RvC hS).2 hl hc)
theorem z_look {x dflt off : Int} {ps : Array (Int × Int)} {len tgt : Nat} (hd : decode M.2.1 pc = .ok (.lookupswitch dflt ps, len)) (hp : (ps.toList.zip (ps.toList.drop 1)).all (fun (a, next) => a.1 < next.1) = true)
    (ho : Op.lookupswitch.offset ps.toList dflt x = off) (ht : (pc : Int) + off = (tgt : Int)) (k : z_Sem M nz tgt L st σ Q) : z_Sem M nz pc L (z_i x :: st) σ Q := by
  intro G p l e s m args below meth c Z H locs ls hX hZ hP hL hS hl hc
  have hx : z_R x := (z_RvC hS).1
  exact lv_lookup hX.1 hX.2.1 hd hp (by rw [z_toInt hx]; exact ho) ht (k G p l e s m args below meth c Z H locs ls hX hZ hP hL (z_RvC hS).2 hl hc)
theorem z_dup2 {x y : z_V} (hd : decode M.2.1 pc = .ok (.dup2, 1)) (h1 : z_c2 x = false) (h2 : z_c2 y = false) (k : z_Sem M nz (pc + 1) L (x :: y :: x :: y :: st) σ Q) : z_Sem M nz pc L (x :: y :: st) σ Q :=
  z_pure (fun G _ _ _ _ _ _ _ _ _ _ _ _ ls hX _ _ _ hl kk => lv_dup2_11 hX.1 hX.2.1 hd (by rcases x with x | x | x | x | (_ | x) <;> first | rfl | cases h1) (by rcases y with x | x | x | x | (_ | x) <;> first | rfl | cases h2) (kk ls hl)) (fun h _ => h) (fun _ h => z_RvM (z_RvC h).1 (z_RvM (z_RvC (z_RvC h).2).1 h)) k
/-! fields -/
def z_cls (ci : Nat) (C : String) (T : u_T) (N : Nat) (ty : Nat → FieldType) : Prop := z_Cl[ci]? = some (C, T, N) ∧ (∀ w ∈ u_ws C T N, w ∈ z_tb) ∧ (∀ k, k < N → parseFieldDescriptor (T k).2.2.1 = some (ty k)) ∧ (∀ a, a < N → ∀ b, b < N → a ≠ b → (T a).2.1 ≠ (T b).2.1)
def z_fl (own : String) (idx ci k : Nat) (t : FieldType) (fin : Bool) : Prop := ∃ (C : String) (T : u_T) (N : Nat) (ty : Nat → FieldType), z_cls ci C T N ty ∧ k < N ∧ (T k).2.2.2 = fin ∧ ty k = t ∧ (Cond.fieldLink own idx (T k).1 (T k).2.1 (T k).2.2.1 ∈ z_tb ∨ ∃ host : String, Cond.fieldLinkNest own idx (T k).1 (T k).2.1 (T k).2.2.1 host ∈ z_tn)
theorem z_lt1000 {G : z_G} {σ : z_S} {s : State} {H : Heap} {locs : List Loc} {a : Nat} {c : z_C} (hP : z_P G σ s H locs) (hs : σ.1[a]? = some c) : a < 1000 := Nat.lt_of_lt_of_le (List.getElem?_eq_some_iff.mp hs).1 hP.1.2.1
theorem z_cvr {G : z_G} {σ : z_S} {s : State} {H : Heap} {locs : List Loc} {a : Nat} {c : z_C} (hP : z_P G σ s H locs) (hs : σ.1[a]? = some c) : z_cv G (z_r a) = .ref (z_ad G a) := rfl
theorem z_getV {idx ci k a : Nat} {t : FieldType} {fin : Bool} {fl : List (Option (Option Nat))} {v : z_V} (hf : z_fl M.1.cls idx ci k t fin) (hd : decode M.2.1 pc = .ok (.getfield idx, 3)) (hs : σ.1[a]? = some (.inl (ci, fl))) (hv : ∀ G : z_G, (fl.mapIdx (z_fld G (σ.2 a)))[k]? = some (z_cv G v)) (hr : (∀ (a : Nat) (i : Int), z_R (σ.2 a i)) → z_Rv v)
    (kk : z_Sem M nz (pc + 3) L (v :: st) σ Q) : z_Sem M nz pc L (z_r a :: st) σ Q := by
  intro G p l e s m args below meth c Z H locs ls hX hZ hP hL hS hl hc
  obtain ⟨C, T, N, ty, ⟨c1, c2, c3, c4⟩, hk, hfin, hty, hlink⟩ := hf
  rw [List.map_cons, z_cvr hP hs]
  have h1 := kk G p l e s m args below meth c Z H locs ls hX hZ hP hL (z_RvM (hr hP.1.2.2.1) (z_RvC hS).2) hl hc
  rcases hlink with h | ⟨host, h⟩
  · exact va_get (ref := (T k).1) (index := idx) hX.1 hX.2.1 hX.2.2.2.2.2.1 c2 hX.2.2.2.2.1 hX.2.2.2.2.2.2.2.2.1 hP.1.1 a (z_ws_get hs) c1 k hk (hX.2.2.2.2.2.1 _ h) (fun x hx => hx) (hv G) hd h1
  · exact va_getN (ref := (T k).1) (index := idx) hX.1 hX.2.1 hX.2.2.2.2.2.1 c2 hX.2.2.2.2.1 hX.2.2.2.2.2.2.2.2.1 hP.1.1 a (z_ws_get hs) c1 k hk ((hX.2.2.2.2.2.2.2.2.2.1.2.2.2.2.2.1 _ h).use rfl) (fun x hx => hx) (hv G) hd h1
theorem z_getI {idx ci k a : Nat} {ki : Int} {t : FieldType} {fin : Bool} {fl : List (Option (Option Nat))} (hf : z_fl M.1.cls idx ci k t fin) (hd : decode M.2.1 pc = .ok (.getfield idx, 3)) (hs : σ.1[a]? = some (.inl (ci, fl))) (hk : fl[k]? = some none) (hki : (k : Int) = ki) (kk : z_Sem M nz (pc + 3) L (z_i (σ.2 a ki) :: st) σ Q) : z_Sem M nz pc L (z_r a :: st) σ Q := by
  subst hki
  exact z_getV (v := z_i (σ.2 a (k : Int))) hf hd hs (fun G => by simp [List.getElem?_mapIdx, hk, z_fld, z_cv]) (fun h => h a k) kk
theorem z_getR {idx ci k a r : Nat} {t : FieldType} {fin : Bool} {fl : List (Option (Option Nat))} (hf : z_fl M.1.cls idx ci k t fin) (hd : decode M.2.1 pc = .ok (.getfield idx, 3)) (hs : σ.1[a]? = some (.inl (ci, fl))) (hk : fl[k]? = some (some (some r))) (kk : z_Sem M nz (pc + 3) L (z_r r :: st) σ Q) : z_Sem M nz pc L (z_r a :: st) σ Q :=
  z_getV (v := z_r r) hf hd hs (fun G => by simp [List.getElem?_mapIdx, hk, z_fld, z_cv]) (fun _ => True.intro) kk
theorem z_Pset {G : z_G} {σ : z_S} {s : State} {H H1 : Heap} {locs locs1 : List Loc} {a : Nat} {c0 c : z_C} {f : Int → Int} (hP : z_P G σ s H locs) (hs : σ.1[a]? = some c0) (hf : ∀ j : Int, z_R (f j)) (h : va_P G.1 z_Cl ((z_ws G σ).set a (z_ad G a, z_cell G f c)) H1) (hS1 : va_S G.2.2.1 s.heap H1 locs1) : z_P G (z_u σ a c f) s H1 locs1 := by
  rw [z_ws_set hs] at h
  have ha := z_lt1000 hP hs
  obtain ⟨⟨h1, h2, h3, h4, h5, h6, h7⟩, h8⟩ := hP
  have hlen : (z_u σ a c f).1.length = σ.1.length := by simp [z_u]
  refine ⟨⟨h, by rw [hlen]; exact h2, fun b i => ?_, fun j hj => ?_, ?_, fun i hi => h6 i (by rw [← hlen]; exact hi), fun i j hi hj => h7 i j (by rw [← hlen]; exact hi) (by rw [← hlen]; exact hj)⟩, hS1⟩
  · show z_R ((if b = a then f else σ.2 b) i)
    split
    · exact hf i
    · exact h3 b i
  · show (if 1000 = a then f else σ.2 1000) (j : Int) = _
    rw [if_neg (by omega)]; exact h4 j hj
  · show (if 1001 = a then f else σ.2 1001) 0 = _
    rw [if_neg (by omega)]; exact h5
theorem z_fldset (G : z_G) (f : Int → Int) (fl : List (Option (Option Nat))) (k : Nat) (hk : fl[k]? = some none) (x : Int) : (fl.mapIdx (z_fld G f)).set k (.int (Int32.ofInt x)) = fl.mapIdx (z_fld G (fun j => if j = (k : Int) then x else f j)) := by
  apply List.ext_getElem?
  intro i
  have hl := (List.getElem?_eq_some_iff.mp hk).1
  by_cases hi : i = k
  · subst hi
    rw [List.getElem?_set_self (by simpa using hl)]
    simp [List.getElem?_mapIdx, hk, z_fld]
  · rw [List.getElem?_set_ne (Ne.symm hi)]
    simp only [List.getElem?_mapIdx]
    cases fl[i]? with
    | none => rfl
    | some o =>
      rcases o with _ | _ | r
      · have : ¬ ((i : Int) = (k : Int)) := by omega
        simp [z_fld, this]
      · rfl
      · rfl
theorem z_fldsetR (G : z_G) (f : Int → Int) (fl : List (Option (Option Nat))) (k : Nat) (hl : k < fl.length) (r : Nat) : (fl.mapIdx (z_fld G f)).set k (.ref (z_ad G r)) = (fl.set k (some (some r))).mapIdx (z_fld G f) := by
  apply List.ext_getElem?
  intro i
  by_cases hi : i = k
  · subst hi
    rw [List.getElem?_set_self (by simpa using hl)]
    simp [List.getElem?_mapIdx, hl, z_fld]
  · rw [List.getElem?_set_ne (Ne.symm hi)]
    simp only [List.getElem?_mapIdx, List.getElem?_set_ne (Ne.symm hi)]
theorem z_putV {idx ci k a : Nat} {t : FieldType} {x : Int} {fl : List (Option (Option Nat))} (hf : z_fl M.1.cls idx ci k t false) (hn : narrow t (.int (Int32.ofInt x)) = .int (Int32.ofInt x)) (hfit : fits t (.int (Int32.ofInt x)) = true) (hd : decode M.2.1 pc = .ok (.putfield idx, 3)) (hs : σ.1[a]? = some (.inl (ci, fl))) (hk : fl[k]? = some none) (kk : z_Sem M nz (pc + 3) L st (z_w σ a (k : Int) x) Q) : z_Sem M nz pc L (z_i x :: z_r a :: st) σ Q := by
  intro G p l e s m args below meth c Z H locs ls hX hZ hP hL hS hl hc
  obtain ⟨C, T, N, ty, ⟨c1, c2, c3, c4⟩, hkN, hfin, hty, hlink⟩ := hf
  rw [List.map_cons, List.map_cons, z_cvr hP hs]
  have hx : z_R x := (z_RvC hS).1
  have hl' : k < (fl.mapIdx (z_fld G (σ.2 a))).length := by simpa using (List.getElem?_eq_some_iff.mp hk).1
  have k2 : ∀ (H1 : Heap) (locs1 : List Loc), va_P G.1 z_Cl ((z_ws G σ).set a (z_ad G a, .inr (ci, (fl.mapIdx (z_fld G (σ.2 a))).set k (.int (Int32.ofInt x))))) H1 → va_D G.2.2.1 ((z_ws G σ).set a (z_ad G a, .inr (ci, (fl.mapIdx (z_fld G (σ.2 a))).set k (.int (Int32.ofInt x))))) → va_S G.2.2.1 s.heap H1 locs1 → W p l e M.2.2.2.2 s m args below meth c H1 locs1 nz.2 nz.2 Z (F0 m (pc + 3) ls (st.map (z_cv G))) := by
    intro H1 locs1 hP1 _ hS1
    rw [z_fldset G (σ.2 a) fl k hk x] at hP1
    have hP2 := z_Pset (c := .inl (ci, fl)) (f := fun j => if j = (k : Int) then x else σ.2 a j) hP hs (fun j => by split; exact hx; exact hP.1.2.2.1 a j) hP1 hS1
    rw [z_w_eq hs] at hP2
    exact kk G p l e s m args below meth c Z H1 locs1 ls hX hZ hP2 hL (z_RvC (z_RvC hS).2).2 hl hc
  rcases hlink with h | ⟨host, h⟩
  · exact va_put (ref := (T k).1) (index := idx) (ty := t) hX.1 hX.2.1 hX.2.2.2.2.2.1 c2 ty c3 c4 hX.2.2.2.2.1 hX.2.2.2.2.2.2.2.2.1 hP.1.1 (z_D hP.1) hP.2 a (z_ws_get hs) c1 k hkN (hX.2.2.2.2.2.1 _ h) (fun x hx => hx) hfin (by rw [c3 k hkN, hty]) hn hfit hl' hd k2
  · exact va_putN (ref := (T k).1) (index := idx) (ty := t) hX.1 hX.2.1 hX.2.2.2.2.2.1 c2 ty c3 c4 hX.2.2.2.2.1 hX.2.2.2.2.2.2.2.2.1 hP.1.1 (z_D hP.1) hP.2 a (z_ws_get hs) c1 k hkN ((hX.2.2.2.2.2.2.2.2.2.1.2.2.2.2.2.1 _ h).use rfl) (fun x hx => hx) hfin (by rw [c3 k hkN, hty]) hn hfit hl' hd k2
theorem z_putI {idx ci k a : Nat} {x ki : Int} {fl : List (Option (Option Nat))} (hf : z_fl M.1.cls idx ci k .int false) (hd : decode M.2.1 pc = .ok (.putfield idx, 3)) (hs : σ.1[a]? = some (.inl (ci, fl))) (hk : fl[k]? = some none) (hki : (k : Int) = ki) (kk : z_Sem M nz (pc + 3) L st (z_w σ a ki x) Q) : z_Sem M nz pc L (z_i x :: z_r a :: st) σ Q := by
  subst hki
  exact z_putV hf rfl rfl hd hs hk kk
theorem z_01 {x : Int} (h : 0 ≤ x ∧ x ≤ 1) : x = 0 ∨ x = 1 := by omega
theorem z_putZ {idx ci k a : Nat} {x ki : Int} {fl : List (Option (Option Nat))} (hf : z_fl M.1.cls idx ci k .boolean false) (hd : decode M.2.1 pc = .ok (.putfield idx, 3)) (hs : σ.1[a]? = some (.inl (ci, fl))) (hk : fl[k]? = some none) (hki : (k : Int) = ki) (hx : 0 ≤ x ∧ x ≤ 1) (kk : z_Sem M nz (pc + 3) L st (z_w σ a ki x) Q) : z_Sem M nz pc L (z_i x :: z_r a :: st) σ Q := by
  subst hki
  refine z_putV hf ?_ ?_ hd hs hk kk
  · rcases z_01 hx with rfl | rfl <;> decide
  · rcases z_01 hx with rfl | rfl <;> decide
def z_fo (own : String) (idx ci k : Nat) (t : FieldType) (fin : Bool) : Prop := ∃ (C : String) (T : u_T) (N : Nat) (ty : Nat → FieldType), z_cls ci C T N ty ∧ k < N ∧ (T k).1 = own ∧ (T k).2.2.2 = fin ∧ ty k = t ∧ Cond.fieldLink own idx (T k).1 (T k).2.1 (T k).2.2.1 ∈ z_tb
theorem z_fo.fl {own : String} {idx ci k : Nat} {t : FieldType} {fin : Bool} (h : z_fo own idx ci k t fin) : z_fl own idx ci k t fin := by
  obtain ⟨C, T, N, ty, h1, h2, h3, h4, h5, h6⟩ := h
  exact ⟨C, T, N, ty, h1, h2, h4, h5, Or.inl h6⟩
/-- a reference into a field, final or not -/
theorem z_putR {idx ci k a r : Nat} {t : FieldType} {fin : Bool} {fl : List (Option (Option Nat))} (hf : z_fo M.1.cls idx ci k t fin) (hin : fin = true → M.1.name = "<init>") (ht : ∀ b, narrow t (.ref b) = .ref b ∧ fits t (.ref b) = true) (hd : decode M.2.1 pc = .ok (.putfield idx, 3)) (hs : σ.1[a]? = some (.inl (ci, fl))) (hk : k < fl.length) (kk : z_Sem M nz (pc + 3) L st (z_u σ a (.inl (ci, fl.set k (some (some r)))) (σ.2 a)) Q) : z_Sem M nz pc L (z_r r :: z_r a :: st) σ Q := by
  intro G p l e s m args below meth c Z H locs ls hX hZ hP hL hS hl hc
  obtain ⟨C, T, N, ty, ⟨c1, c2, c3, c4⟩, hkN, hC, hfin, hty, h⟩ := hf
  rw [List.map_cons, List.map_cons, z_cvr hP hs]
  have hl' : k < (fl.mapIdx (z_fld G (σ.2 a))).length := by simpa using hk
  have k2 : ∀ (H1 : Heap) (locs1 : List Loc), va_P G.1 z_Cl ((z_ws G σ).set a (z_ad G a, .inr (ci, (fl.mapIdx (z_fld G (σ.2 a))).set k (z_cv G (z_r r))))) H1 → va_D G.2.2.1 ((z_ws G σ).set a (z_ad G a, .inr (ci, (fl.mapIdx (z_fld G (σ.2 a))).set k (z_cv G (z_r r))))) → va_S G.2.2.1 s.heap H1 locs1 → W p l e M.2.2.2.2 s m args below meth c H1 locs1 nz.2 nz.2 Z (F0 m (pc + 3) ls (st.map (z_cv G))) := by
    intro H1 locs1 hP1 _ hS1
    rw [show z_cv G (z_r r) = .ref (z_ad G r) from rfl, z_fldsetR G (σ.2 a) fl k hk r] at hP1
    have hP2 := z_Pset (c := .inl (ci, fl.set k (some (some r)))) (f := σ.2 a) hP hs (fun j => hP.1.2.2.1 a j) hP1 hS1
    exact kk G p l e s m args below meth c Z H1 locs1 ls hX hZ hP2 hL (z_RvC (z_RvC hS).2).2 hl (by simpa [z_u] using hc)
  cases fin with
  | true => exact va_putF (ref := (T k).1) (index := idx) (ty := t) hX.1 hX.2.1 hX.2.2.2.2.2.1 c2 ty c3 c4 hX.2.2.2.2.1 hX.2.2.2.2.2.2.2.2.1 hP.1.1 (z_D hP.1) hP.2 a (z_ws_get hs) c1 k hkN (hX.2.2.2.2.2.1 _ h) (fun x hx => hx) hfin (hX.2.2.2.2.2.2.2.1 (hin rfl)) hC (by rw [c3 k hkN, hty]) (ht _).1 (ht _).2 hl' hd k2
  | false => exact va_put (ref := (T k).1) (index := idx) (ty := t) hX.1 hX.2.1 hX.2.2.2.2.2.1 c2 ty c3 c4 hX.2.2.2.2.1 hX.2.2.2.2.2.2.2.2.1 hP.1.1 (z_D hP.1) hP.2 a (z_ws_get hs) c1 k hkN (hX.2.2.2.2.2.1 _ h) (fun x hx => hx) hfin (by rw [c3 k hkN, hty]) (ht _).1 (ht _).2 hl' hd k2
/-- a number into a final field -/
theorem z_putVF {idx ci k a : Nat} {t : FieldType} {x : Int} {fl : List (Option (Option Nat))} (hf : z_fo M.1.cls idx ci k t true) (hin : M.1.name = "<init>") (hn : narrow t (.int (Int32.ofInt x)) = .int (Int32.ofInt x)) (hfit : fits t (.int (Int32.ofInt x)) = true) (hd : decode M.2.1 pc = .ok (.putfield idx, 3)) (hs : σ.1[a]? = some (.inl (ci, fl))) (hk : fl[k]? = some none) (kk : z_Sem M nz (pc + 3) L st (z_w σ a (k : Int) x) Q) : z_Sem M nz pc L (z_i x :: z_r a :: st) σ Q := by
  intro G p l e s m args below meth c Z H locs ls hX hZ hP hL hS hl hc
  obtain ⟨C, T, N, ty, ⟨c1, c2, c3, c4⟩, hkN, hC, hfin, hty, h⟩ := hf
  rw [List.map_cons, List.map_cons, z_cvr hP hs]
  have hx : z_R x := (z_RvC hS).1
  have hl' : k < (fl.mapIdx (z_fld G (σ.2 a))).length := by simpa using (List.getElem?_eq_some_iff.mp hk).1
  refine va_putF (ref := (T k).1) (index := idx) (ty := t) hX.1 hX.2.1 hX.2.2.2.2.2.1 c2 ty c3 c4 hX.2.2.2.2.1 hX.2.2.2.2.2.2.2.2.1 hP.1.1 (z_D hP.1) hP.2 a (z_ws_get hs) c1 k hkN (hX.2.2.2.2.2.1 _ h) (fun x hx => hx) hfin (hX.2.2.2.2.2.2.2.1 hin) hC (by rw [c3 k hkN, hty]) hn hfit hl' hd ?_
  intro H1 locs1 hP1 _ hS1
  rw [show z_cv G (z_i x) = .int (Int32.ofInt x) from rfl, z_fldset G (σ.2 a) fl k hk x] at hP1
  have hP2 := z_Pset (c := .inl (ci, fl)) (f := fun j => if j = (k : Int) then x else σ.2 a j) hP hs (fun j => by split; exact hx; exact hP.1.2.2.1 a j) hP1 hS1
  rw [z_w_eq hs] at hP2
  exact kk G p l e s m args below meth c Z H1 locs1 ls hX hZ hP2 hL (z_RvC (z_RvC hS).2).2 hl hc
/-! rows of numbers -/
theorem z_upd (f : Int → Int) {i x : Int} (h0 : 0 ≤ i) : upd (fun j : Nat => Int32.ofInt (f (j : Int))) i.toNat (Int32.ofInt x) = fun j : Nat => Int32.ofInt ((fun j : Int => if j = i then x else f j) (j : Int)) := by
  funext j
  simp only [upd]
  by_cases hj : j = i.toNat
  · rw [if_pos hj, if_pos (by omega)]
  · rw [if_neg hj, if_neg (by omega)]
theorem z_iald {a n : Nat} {i : Int} (hd : decode M.2.1 pc = .ok (.iaload, 1)) (hs : σ.1[a]? = some (.inr (.inl (0, n)))) (hi : 0 ≤ i ∧ i < (n : Int)) (kk : z_Sem M nz (pc + 1) L (z_i (σ.2 a i) :: st) σ Q) : z_Sem M nz pc L (z_i i :: z_r a :: st) σ Q := by
  intro G p l e s m args below meth c Z H locs ls hX hZ hP hL hS hl hc
  rw [List.map_cons, List.map_cons, z_cvr hP hs]
  have hi' : z_R i := (z_RvC hS).1
  refine va_iald hX.1 hX.2.1 hX.2.2.2.2.2.2.2.2.1 hP.1.1 a 0 (z_ws_get hs) rfl (z_in hi' hi.1 hi.2) hd ?_
  have h1 := kk G p l e s m args below meth c Z H locs ls hX hZ hP hL (z_RvI (hP.1.2.2.1 a i) (z_RvC (z_RvC hS).2).2) hl hc
  rw [z_clamp hi', show ((i.toNat : Nat) : Int) = i by omega]
  exact h1
theorem z_bald {a n : Nat} {i : Int} (hd : decode M.2.1 pc = .ok (.baload, 1)) (hs : σ.1[a]? = some (.inr (.inl (2, n)))) (hi : 0 ≤ i ∧ i < (n : Int)) (kk : z_Sem M nz (pc + 1) L (z_i (σ.2 a i) :: st) σ Q) : z_Sem M nz pc L (z_i i :: z_r a :: st) σ Q := by
  intro G p l e s m args below meth c Z H locs ls hX hZ hP hL hS hl hc
  rw [List.map_cons, List.map_cons, z_cvr hP hs]
  have hi' : z_R i := (z_RvC hS).1
  refine va_bald hX.1 hX.2.1 hX.2.2.2.2.2.2.2.2.1 hP.1.1 a 2 (z_ws_get hs) rfl (z_in hi' hi.1 hi.2) hd ?_
  have h1 := kk G p l e s m args below meth c Z H locs ls hX hZ hP hL (z_RvI (hP.1.2.2.1 a i) (z_RvC (z_RvC hS).2).2) hl hc
  rw [z_clamp hi', show ((i.toNat : Nat) : Int) = i by omega]
  exact h1
theorem z_zald {a n : Nat} {i : Int} (hd : decode M.2.1 pc = .ok (.baload, 1)) (hs : σ.1[a]? = some (.inr (.inl (1, n)))) (hi : 0 ≤ i ∧ i < (n : Int)) (kk : z_Sem M nz (pc + 1) L (z_i (σ.2 a i) :: st) σ Q) : z_Sem M nz pc L (z_i i :: z_r a :: st) σ Q := by
  intro G p l e s m args below meth c Z H locs ls hX hZ hP hL hS hl hc
  rw [List.map_cons, List.map_cons, z_cvr hP hs]
  have hi' : z_R i := (z_RvC hS).1
  refine va_zald hX.1 hX.2.1 hX.2.2.2.2.2.2.2.2.1 hP.1.1 a 1 (z_ws_get hs) rfl (z_in hi' hi.1 hi.2) hd ?_
  have h1 := kk G p l e s m args below meth c Z H locs ls hX hZ hP hL (z_RvI (hP.1.2.2.1 a i) (z_RvC (z_RvC hS).2).2) hl hc
  rw [z_clamp hi', show ((i.toNat : Nat) : Int) = i by omega]
  exact h1
theorem z_astG {a n kd : Nat} {i x : Int} (hs : σ.1[a]? = some (.inr (.inl (kd, n)))) (hi : 0 ≤ i) {G : z_G} {s : State} {H H1 : Heap} {locs locs1 : List Loc} (hP : z_P G σ s H locs) (hx : z_R x)
    (h : va_P G.1 z_Cl ((z_ws G σ).set a (z_ad G a, .inl (G.2.1 kd, n, .inl (upd (fun j : Nat => Int32.ofInt (σ.2 a (j : Int))) i.toNat (Int32.ofInt x))))) H1) (hS1 : va_S G.2.2.1 s.heap H1 locs1) : z_P G (z_w σ a i x) s H1 locs1 := by
  rw [z_upd (σ.2 a) hi] at h
  have hP2 := z_Pset (c := .inr (.inl (kd, n))) (f := fun j => if j = i then x else σ.2 a j) hP hs (fun j => by split; exact hx; exact hP.1.2.2.1 a j) h hS1
  rw [z_w_eq hs] at hP2
  exact hP2
theorem z_iast {a n : Nat} {i x : Int} (hd : decode M.2.1 pc = .ok (.iastore, 1)) (hs : σ.1[a]? = some (.inr (.inl (0, n)))) (hi : 0 ≤ i ∧ i < (n : Int)) (kk : z_Sem M nz (pc + 1) L st (z_w σ a i x) Q) : z_Sem M nz pc L (z_i x :: z_i i :: z_r a :: st) σ Q := by
  intro G p l e s m args below meth c Z H locs ls hX hZ hP hL hS hl hc
  rw [List.map_cons, List.map_cons, List.map_cons, z_cvr hP hs]
  have hx' : z_R x := (z_RvC hS).1
  have hi' : z_R i := (z_RvC (z_RvC hS).2).1
  refine va_iast hX.1 hX.2.1 hX.2.2.2.2.2.2.2.2.1 hP.1.1 (z_D hP.1) hP.2 a 0 (z_ws_get hs) rfl (z_in hi' hi.1 hi.2) hd (fun H1 locs1 hP1 _ hS1 => ?_)
  rw [z_clamp hi'] at hP1
  exact kk G p l e s m args below meth c Z H1 locs1 ls hX hZ (z_astG hs hi.1 hP hx' hP1 hS1) hL (z_RvC (z_RvC (z_RvC hS).2).2).2 hl hc
theorem z_bast {a n : Nat} {i x : Int} (hd : decode M.2.1 pc = .ok (.bastore, 1)) (hs : σ.1[a]? = some (.inr (.inl (2, n)))) (hi : 0 ≤ i ∧ i < (n : Int)) (hx : z_i2bv x = x) (kk : z_Sem M nz (pc + 1) L st (z_w σ a i x) Q) : z_Sem M nz pc L (z_i x :: z_i i :: z_r a :: st) σ Q := by
  intro G p l e s m args below meth c Z H locs ls hX hZ hP hL hS hl hc
  rw [List.map_cons, List.map_cons, List.map_cons, z_cvr hP hs]
  have hx' : z_R x := (z_RvC hS).1
  have hi' : z_R i := (z_RvC (z_RvC hS).2).1
  refine va_bast hX.1 hX.2.1 hX.2.2.2.2.2.2.2.2.1 hP.1.1 (z_D hP.1) hP.2 a 2 (z_ws_get hs) rfl (z_in hi' hi.1 hi.2) hd (fun H1 locs1 hP1 _ hS1 => ?_)
  have hv : vp_nar .byte (Int32.ofInt x) = Int32.ofInt x := by
    show (Int32.ofInt x).toInt8.toInt32 = _
    apply Int32.toInt_inj.mp
    rw [z_toInt hx']
    exact hx
  rw [z_clamp hi', hv] at hP1
  exact kk G p l e s m args below meth c Z H1 locs1 ls hX hZ (z_astG hs hi.1 hP hx' hP1 hS1) hL (z_RvC (z_RvC (z_RvC hS).2).2).2 hl hc
theorem z_zast {a n : Nat} {i x : Int} (hd : decode M.2.1 pc = .ok (.bastore, 1)) (hs : σ.1[a]? = some (.inr (.inl (1, n)))) (hi : 0 ≤ i ∧ i < (n : Int)) (hx : 0 ≤ x ∧ x ≤ 1) (kk : z_Sem M nz (pc + 1) L st (z_w σ a i x) Q) : z_Sem M nz pc L (z_i x :: z_i i :: z_r a :: st) σ Q := by
  intro G p l e s m args below meth c Z H locs ls hX hZ hP hL hS hl hc
  rw [List.map_cons, List.map_cons, List.map_cons, z_cvr hP hs]
  have hx' : z_R x := (z_RvC hS).1
  have hi' : z_R i := (z_RvC (z_RvC hS).2).1
  refine va_zast hX.1 hX.2.1 hX.2.2.2.2.2.2.2.2.1 hP.1.1 (z_D hP.1) hP.2 a 1 (z_ws_get hs) rfl (z_in hi' hi.1 hi.2) hd (fun H1 locs1 hP1 _ hS1 => ?_)
  have hv : vp_nar .boolean (Int32.ofInt x) = Int32.ofInt x := by rcases z_01 hx with rfl | rfl <;> decide
  rw [z_clamp hi', hv] at hP1
  exact kk G p l e s m args below meth c Z H1 locs1 ls hX hZ (z_astG hs hi.1 hP hx' hP1 hS1) hL (z_RvC (z_RvC (z_RvC hS).2).2).2 hl hc
theorem z_aald {a r : Nat} {rs : List (Option Nat)} {i : Int} (hd : decode M.2.1 pc = .ok (.aaload, 1)) (hs : σ.1[a]? = some (.inr (.inr rs))) (h0 : 0 ≤ i) (hr : rs[i.toNat]? = some (some r)) (kk : z_Sem M nz (pc + 1) L (z_r r :: st) σ Q) : z_Sem M nz pc L (z_i i :: z_r a :: st) σ Q := by
  intro G p l e s m args below meth c Z H locs ls hX hZ hP hL hS hl hc
  rw [List.map_cons, List.map_cons, z_cvr hP hs]
  have hi' : z_R i := (z_RvC hS).1
  have hlt := (List.getElem?_eq_some_iff.mp hr).1
  refine va_aldq hX.1 hX.2.1 hX.2.2.2.2.2.2.2.2.1 hP.1.1 a 3 (z_ws_get hs) rfl (z_in hi' h0 (by omega)) hd ?_
  have h1 := kk G p l e s m args below meth c Z H locs ls hX hZ hP hL (z_RvN (z_RvC (z_RvC hS).2).2) hl hc
  rw [z_clamp hi', List.getD_eq_getElem?_getD, hr]
  exact h1
theorem z_alen {a n : Nat} {kd : Nat} (hd : decode M.2.1 pc = .ok (.arraylength, 1)) (hk : kd < 3) (hs : σ.1[a]? = some (.inr (.inl (kd, n)))) (hn : z_R (n : Int)) (kk : z_Sem M nz (pc + 1) L (z_i (n : Int) :: st) σ Q) : z_Sem M nz pc L (z_r a :: st) σ Q := by
  intro G p l e s m args below meth c Z H locs ls hX hZ hP hL hS hl hc
  rw [List.map_cons, z_cvr hP hs]
  have h1 := kk G p l e s m args below meth c Z H locs ls hX hZ hP hL (z_RvI hn (z_RvC hS).2) hl hc
  have ht : ∃ ty, (z_tys G)[kd]? = some (G.2.1 kd, ty) := by
    match kd, hk with
    | 0, _ => exact ⟨_, rfl⟩
    | 1, _ => exact ⟨_, rfl⟩
    | 2, _ => exact ⟨_, rfl⟩
  obtain ⟨ty, ht⟩ := ht
  exact va_alen hX.1 hX.2.1 hX.2.2.2.2.2.2.2.2.1 hP.1.1 a kd (z_ws_get hs) ht (v := Int32.ofInt (n : Int)) rfl hd h1
/-- the script -/
theorem z_sald {i : Int} (hd : decode M.2.1 pc = .ok (.iaload, 1)) (hi : 0 ≤ i ∧ i < σ.2 1001 0) (kk : z_Sem M nz (pc + 1) L (z_i (σ.2 1000 i) :: st) σ Q) : z_Sem M nz pc L (z_i i :: z_r 1000 :: st) σ Q := by
  intro G p l e s m args below meth c Z H locs ls hX hZ hP hL hS hl hc
  have hi' : z_R i := (z_RvC hS).1
  have hO := hX.2.2.2.2.2.2.2.2.2.1
  have hi2 := hi.2
  rw [hP.1.2.2.2.2.1] at hi2
  have hb : z_ad G 1000 < s.heap.size := by
    obtain ⟨scr, e1, -⟩ := hO.1.1
    exact (Array.getElem?_eq_some_iff.mp e1).1
  refine va_sld hX.1 hX.2.1 hO.1.1 hb hO.1.2 hP.2 (z_in hi' hi.1 hi2) hd ?_
  have h1 := kk G p l e s m args below meth c Z H locs ls hX hZ hP hL (z_RvI (hP.1.2.2.1 1000 i) (z_RvC (z_RvC hS).2).2) hl hc
  have h2 := hP.1.2.2.2.1 i.toNat (by omega)
  rw [show ((i.toNat : Nat) : Int) = i by omega] at h2
  rw [z_clamp hi', ← Int32.ofInt_toInt (G.2.2.2.2.2 i.toNat), ← h2]
  exact h1
theorem z_slen (hd : decode M.2.1 pc = .ok (.arraylength, 1)) (kk : z_Sem M nz (pc + 1) L (z_i (σ.2 1001 0) :: st) σ Q) : z_Sem M nz pc L (z_r 1000 :: st) σ Q := by
  intro G p l e s m args below meth c Z H locs ls hX hZ hP hL hS hl hc
  have hO := hX.2.2.2.2.2.2.2.2.2.1
  have hb : z_ad G 1000 < s.heap.size := by
    obtain ⟨scr, e1, -⟩ := hO.1.1
    exact (Array.getElem?_eq_some_iff.mp e1).1
  refine va_slen hX.1 hX.2.1 hO.1.1 hb hO.1.2 hP.2 hd ?_
  have h1 := kk G p l e s m args below meth c Z H locs ls hX hZ hP hL (z_RvI (hP.1.2.2.1 1001 0) (z_RvC hS).2) hl hc
  rw [show Int32.ofNat G.2.2.2.2.1 = Int32.ofInt (σ.2 1001 0) by rw [hP.1.2.2.2.2.1]; rfl]
  exact h1
end ZRULES2
