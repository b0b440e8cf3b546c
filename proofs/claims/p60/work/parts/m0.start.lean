/-! THE START: what the tables and the given words say -/
/-- a private method of a superclass is what a call of it selects -/
theorem z_selP {y z : MethodName} {s : State} {args : Array Value} {n : Nat} {C : String} (hy : y.cls ≠ "java/lang/invoke/MethodHandle" ∧ y.cls ≠ "java/lang/invoke/VarHandle") (hc : z.cls = y.cls) (hins : (Cond.instantiable C n).before args s = true) (hpriv : (Cond.privateMethod y).before args s = true) (hinst : (Cond.instanceMethod y).before args s = true) (hsel : (Cond.selects C z z).before args s = true) : (Cond.selects C y y).before args s = true := by
  obtain ⟨c, k, hcc, hk, -⟩ := Cond.instantiable_spec hins
  obtain ⟨mk, methM, hnamed, hmethM, -, -⟩ := Cond.instanceMethod_spec hinst
  have hfound : s.methodFound? y.cls y.name y.desc = some mk := State.methodFound?_of_named hnamed hy
  have hsl : selectMethod {} s.vm c mk = .method mk := selectMethod_private hmethM (Cond.privateMethod_at hpriv mk methM hnamed hmethM)
  have hni : (s.vm.classes[mk.cls]?).any (!·.isInterface) = true := by
    simp only [Cond.before, Cond.holds, Cond.value, hcc] at hsel
    cases h1 : s.methodFound? z.cls z.name z.desc with
    | none => simp [h1] at hsel
    | some r =>
      cases h2 : s.methodNamed? z with
      | none => simp [h1, h2] at hsel
      | some m2 =>
        have e : m2.cls = mk.cls := Option.some.inj ((findClass_of_methodNamed h2).symm.trans (by rw [hc]; exact findClass_of_methodNamed hnamed))
        rw [← e]
        cases h3 : selectMethod {} s.vm c r with
        | method m' =>
          simp [h1, h2, h3] at hsel
          simpa using hsel.2
        | _ => simp [h1, h2, h3] at hsel
  simp only [Cond.before, Cond.holds, Cond.value, hcc, hfound, hnamed, hsl]
  simp
  simpa using hni
set_option maxRecDepth 100000 in
theorem z_pp_yJ5_ensureCapacityInternal_d00df : Cond.privateMethod yJ5_ensureCapacityInternal_d00df ∈ lw_tbl := List.mem_of_getElem? (i := 749) (Eq.refl _)
set_option maxRecDepth 100000 in
theorem z_pi_yJ5_ensureCapacityInternal_d00df : Cond.instanceMethod yJ5_ensureCapacityInternal_d00df ∈ lw_tbl := List.mem_of_getElem? (i := 750) (Eq.refl _)
set_option maxRecDepth 100000 in
theorem z_pp_yJ5_newCapacity_0f7a4 : Cond.privateMethod yJ5_newCapacity_0f7a4 ∈ lw_tbl := List.mem_of_getElem? (i := 753) (Eq.refl _)
set_option maxRecDepth 100000 in
theorem z_pi_yJ5_newCapacity_0f7a4 : Cond.instanceMethod yJ5_newCapacity_0f7a4 ∈ lw_tbl := List.mem_of_getElem? (i := 754) (Eq.refl _)
set_option maxRecDepth 100000 in
theorem z_pp_yJ5_putStringAt_47b60 : Cond.privateMethod yJ5_putStringAt_47b60 ∈ lw_tbl := List.mem_of_getElem? (i := 800) (Eq.refl _)
set_option maxRecDepth 100000 in
theorem z_pi_yJ5_putStringAt_47b60 : Cond.instanceMethod yJ5_putStringAt_47b60 ∈ lw_tbl := List.mem_of_getElem? (i := 801) (Eq.refl _)
set_option maxRecDepth 100000 in
theorem z_pp_yJ5_inflateIfNeededFor_a7421 : Cond.privateMethod yJ5_inflateIfNeededFor_a7421 ∈ lw_tbl := List.mem_of_getElem? (i := 804) (Eq.refl _)
set_option maxRecDepth 100000 in
theorem z_pi_yJ5_inflateIfNeededFor_a7421 : Cond.instanceMethod yJ5_inflateIfNeededFor_a7421 ∈ lw_tbl := List.mem_of_getElem? (i := 805) (Eq.refl _)
def z_yl : MethodName := { cls := "java/lang/AbstractStringBuilder", name := "isLatin1", desc := "()Z" }
set_option maxRecDepth 100000 in
theorem z_pst_l : Cond.selects "java/lang/StringBuilder" z_yl z_yl ∈ lw_tbl := List.mem_of_getElem? (i := 781) (Eq.refl _)
set_option maxRecDepth 100000 in
theorem z_pst_b : Cond.instantiable "java/lang/StringBuilder" 4 ∈ lw_tbl := List.mem_of_getElem? (i := 711) (Eq.refl _)
set_option maxRecDepth 100000 in
theorem z_pst_1 : Cond.laysStatic "java/lang/String" "COMPACT_STRINGS" "Z" ∈ lw_tbl := List.mem_of_getElem? (i := 375) (Eq.refl _)
set_option maxRecDepth 100000 in
theorem z_pst_2 : Cond.initialized "java/lang/String" ∈ lw_tbl := List.mem_of_getElem? (i := 113) (Eq.refl _)
set_option maxRecDepth 100000 in
theorem z_pst_3 : Cond.laysStatic "jdk/internal/util/Preconditions" "SIOOBE_FORMATTER" "Ljava/util/function/BiFunction;" ∈ lw_tbl := List.mem_of_getElem? (i := 391) (Eq.refl _)
set_option maxRecDepth 100000 in
theorem z_pst_4 : Cond.initialized "jdk/internal/util/Preconditions" ∈ lw_tbl := List.mem_of_getElem? (i := 115) (Eq.refl _)
set_option maxRecDepth 100000 in
theorem z_pst_5 : Cond.laysStatic "java/lang/Integer" "DigitOnes" "[B" ∈ lw_tbl := List.mem_of_getElem? (i := 858) (Eq.refl _)
set_option maxRecDepth 100000 in
theorem z_pst_6 : Cond.laysStatic "java/lang/Integer" "DigitTens" "[B" ∈ lw_tbl := List.mem_of_getElem? (i := 860) (Eq.refl _)
set_option maxRecDepth 100000 in
theorem z_pst_7 : Cond.initialized "java/lang/Integer" ∈ lw_tbl := List.mem_of_getElem? (i := 123) (Eq.refl _)
set_option maxRecDepth 100000 in
theorem z_pst_8 : Cond.arrayOver (.object "TimeGaps$Plan") ∈ lw_tbl := List.mem_of_getElem? (i := 264) (Eq.refl _)
theorem z_htbl {args : Array Value} {s : State} (h : ∀ w ∈ lw_tbl, w.before args s = true) : ∀ w ∈ z_tb, w.before args s = true := by
  intro w hw
  rcases List.mem_append.mp (List.mem_filter.mp hw).1 with q | q
  · exact h w q
  · obtain ⟨y, hy, rfl⟩ := List.mem_map.mp q
    have hyy : y = yJ5_ensureCapacityInternal_d00df ∨ y = yJ5_newCapacity_0f7a4 ∨ y = yJ5_putStringAt_47b60 ∨ y = yJ5_inflateIfNeededFor_a7421 := by
      simpa [z_priv] using hy
    rcases hyy with rfl | rfl | rfl | rfl
    · exact z_selP (z := z_yl) ⟨by decide, by decide⟩ (by decide) (h _ z_pst_b) (h _ z_pp_yJ5_ensureCapacityInternal_d00df) (h _ z_pi_yJ5_ensureCapacityInternal_d00df) (h _ z_pst_l)
    · exact z_selP (z := z_yl) ⟨by decide, by decide⟩ (by decide) (h _ z_pst_b) (h _ z_pp_yJ5_newCapacity_0f7a4) (h _ z_pi_yJ5_newCapacity_0f7a4) (h _ z_pst_l)
    · exact z_selP (z := z_yl) ⟨by decide, by decide⟩ (by decide) (h _ z_pst_b) (h _ z_pp_yJ5_putStringAt_47b60) (h _ z_pi_yJ5_putStringAt_47b60) (h _ z_pst_l)
    · exact z_selP (z := z_yl) ⟨by decide, by decide⟩ (by decide) (h _ z_pst_b) (h _ z_pp_yJ5_inflateIfNeededFor_a7421) (h _ z_pi_yJ5_inflateIfNeededFor_a7421) (h _ z_pst_l)
