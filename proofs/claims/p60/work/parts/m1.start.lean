def z_stm (i : Nat) : Term := .string (z_sl.getD i ("", 0, "")).1 (z_sl.getD i ("", 0, "")).2.1
def z_gv : List Cond := flatC (Jvm.Cond.and given_1 narrow_1)
/-- where the words of a String constant stand -/
def z_bx : List Nat := [215, 314, 323, 224, 333, 231, 306, 341, 240, 248, 258, 265, 275, 283, 292, 299, 443, 452, 503, 463, 472, 483, 495, 349, 357, 362, 372, 380, 391, 395, 405, 416, 425, 433, 438]
def z_rx : List Nat := [365, 627, 628, 545, 629, 568, 618, 653, 582, 584, 585, 586, 587, 588, 589, 590, 1446, 1453, 1462, 1458, 1459, 1460, 1461, 712, 869, 871, 886, 887, 894, 952, 953, 954, 955, 956, 1152]
def z_blk (i : Nat) : List Cond := (Cond.exactly (z_stm i) "java/lang/String") :: (Cond.eq (.field (z_stm i) "java/lang/String" "coder" "B") (.int 0)) :: (Cond.arrayOf (.field (z_stm i) "java/lang/String" "value" "[B") .byte) :: (Cond.eq (.length (.field (z_stm i) "java/lang/String" "value" "[B")) (.int (Int32.ofNat (z_len.getD i 0)))) :: (List.range (z_len.getD i 0)).map (fun j => Cond.eq (.elem (.field (z_stm i) "java/lang/String" "value" "[B") (.int (Int32.ofNat j))) (.int ((z_byt.getD i []).getD j 0)))
theorem z_blks : ∀ i : Nat, i < 35 → (z_gv.drop (z_bx.getD i 0)).take (z_len.getD i 0 + 4) = z_blk i := by decide +kernel
theorem z_bmem {i : Nat} (hi : i < 35) {c : Cond} (h : c ∈ z_blk i) : c ∈ z_gv := by
  rw [← z_blks i hi] at h
  exact List.mem_of_mem_drop (List.mem_of_mem_take h)
theorem z_g1 (i : Nat) (hi : i < 35) : (Cond.exactly (z_stm i) "java/lang/String") ∈ z_gv := z_bmem hi List.mem_cons_self
theorem z_g2 (i : Nat) (hi : i < 35) : (Cond.eq (.field (z_stm i) "java/lang/String" "coder" "B") (.int 0)) ∈ z_gv := z_bmem hi (List.mem_cons_of_mem _ List.mem_cons_self)
theorem z_g3 (i : Nat) (hi : i < 35) : (Cond.arrayOf (.field (z_stm i) "java/lang/String" "value" "[B") .byte) ∈ z_gv := z_bmem hi (List.mem_cons_of_mem _ (List.mem_cons_of_mem _ List.mem_cons_self))
theorem z_g4 (i : Nat) (hi : i < 35) : (Cond.eq (.length (.field (z_stm i) "java/lang/String" "value" "[B")) (.int (Int32.ofNat (z_len.getD i 0)))) ∈ z_gv := z_bmem hi (List.mem_cons_of_mem _ (List.mem_cons_of_mem _ (List.mem_cons_of_mem _ List.mem_cons_self)))
theorem z_g5 (i : Nat) (hi : i < 35) (j : Nat) (hj : j < z_len.getD i 0) : (Cond.eq (.elem (.field (z_stm i) "java/lang/String" "value" "[B") (.int (Int32.ofNat j))) (.int ((z_byt.getD i []).getD j 0))) ∈ z_gv := z_bmem hi (List.mem_cons_of_mem _ (List.mem_cons_of_mem _ (List.mem_cons_of_mem _ (List.mem_cons_of_mem _ (List.mem_map.mpr ⟨j, List.mem_range.mpr hj, rfl⟩)))))
theorem z_g6i : ∀ i : Nat, i < 35 → lw_tbl[z_rx.getD i 0]? = some (Cond.stringRef (z_sl.getD i ("", 0, "")).1 (z_sl.getD i ("", 0, "")).2.1 (z_sl.getD i ("", 0, "")).2.2) := by decide +kernel
theorem z_g6 (i : Nat) (hi : i < 35) : (Cond.stringRef (z_sl.getD i ("", 0, "")).1 (z_sl.getD i ("", 0, "")).2.1 (z_sl.getD i ("", 0, "")).2.2) ∈ lw_tbl := List.mem_of_getElem? (z_g6i i hi)
def z_tmD : Term := .static "java/lang/Integer" "DigitOnes" "[B"
def z_tmT : Term := .static "java/lang/Integer" "DigitTens" "[B"
theorem z_dblk1 : (z_gv.drop 10).take 102 = (Cond.arrayOf z_tmD .byte) :: (Cond.eq (.length z_tmD) (.int (Int32.ofNat 100))) :: (List.range 100).map (fun j => Cond.eq (.elem z_tmD (.int (Int32.ofNat j))) (.int (Int32.ofNat (48 + j % 10)))) := by decide +kernel
theorem z_dblk2 : (z_gv.drop 113).take 102 = (Cond.arrayOf z_tmT .byte) :: (Cond.eq (.length z_tmT) (.int (Int32.ofNat 100))) :: (List.range 100).map (fun j => Cond.eq (.elem z_tmT (.int (Int32.ofNat j))) (.int (Int32.ofNat (48 + j / 10)))) := by decide +kernel
theorem z_dm1 {c : Cond} (h : c ∈ (Cond.arrayOf z_tmD .byte) :: (Cond.eq (.length z_tmD) (.int (Int32.ofNat 100))) :: (List.range 100).map (fun j => Cond.eq (.elem z_tmD (.int (Int32.ofNat j))) (.int (Int32.ofNat (48 + j % 10))))) : c ∈ z_gv := by
  rw [← z_dblk1] at h
  exact List.mem_of_mem_drop (List.mem_of_mem_take h)
theorem z_dm2 {c : Cond} (h : c ∈ (Cond.arrayOf z_tmT .byte) :: (Cond.eq (.length z_tmT) (.int (Int32.ofNat 100))) :: (List.range 100).map (fun j => Cond.eq (.elem z_tmT (.int (Int32.ofNat j))) (.int (Int32.ofNat (48 + j / 10))))) : c ∈ z_gv := by
  rw [← z_dblk2] at h
  exact List.mem_of_mem_drop (List.mem_of_mem_take h)
theorem z_d1 : (Cond.arrayOf z_tmD .byte) ∈ z_gv ∧ (Cond.eq (.length z_tmD) (.int (Int32.ofNat 100))) ∈ z_gv := ⟨z_dm1 List.mem_cons_self, z_dm1 (List.mem_cons_of_mem _ List.mem_cons_self)⟩
theorem z_d2 (j : Nat) (hj : j < 100) : (Cond.eq (.elem z_tmD (.int (Int32.ofNat j))) (.int (Int32.ofNat (48 + j % 10)))) ∈ z_gv := z_dm1 (List.mem_cons_of_mem _ (List.mem_cons_of_mem _ (List.mem_map.mpr ⟨j, List.mem_range.mpr hj, rfl⟩)))
theorem z_d3 : (Cond.arrayOf z_tmT .byte) ∈ z_gv ∧ (Cond.eq (.length z_tmT) (.int (Int32.ofNat 100))) ∈ z_gv := ⟨z_dm2 List.mem_cons_self, z_dm2 (List.mem_cons_of_mem _ List.mem_cons_self)⟩
theorem z_d4 (j : Nat) (hj : j < 100) : (Cond.eq (.elem z_tmT (.int (Int32.ofNat j))) (.int (Int32.ofNat (48 + j / 10)))) ∈ z_gv := z_dm2 (List.mem_cons_of_mem _ (List.mem_cons_of_mem _ (List.mem_map.mpr ⟨j, List.mem_range.mpr hj, rfl⟩)))
theorem z_d5i : z_gv[4]? = some (Cond.eq (.static "java/lang/String" "COMPACT_STRINGS" "Z") (.int 1)) := by decide +kernel
theorem z_d6i : z_gv[5]? = some (Cond.isRef (.static "jdk/internal/util/Preconditions" "SIOOBE_FORMATTER" "Ljava/util/function/BiFunction;")) := by decide +kernel
theorem z_d5 : (Cond.eq (.static "java/lang/String" "COMPACT_STRINGS" "Z") (.int 1)) ∈ z_gv := List.mem_of_getElem? z_d5i
theorem z_d6 : (Cond.isRef (.static "jdk/internal/util/Preconditions" "SIOOBE_FORMATTER" "Ljava/util/function/BiFunction;")) ∈ z_gv := List.mem_of_getElem? z_d6i
