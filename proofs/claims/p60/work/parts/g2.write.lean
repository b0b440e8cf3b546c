/-! WRITE, walked -/
section ZWRITE
variable {sh : List z_C} {w0 : z_Mm} {Q : Option z_V → z_S → Prop} {A : z_A} {H : List z_A} {T : z_T} {er : Int} {s : Nat → Option z_A} {x v : Nat} {t : List Int}
/-- a made String beyond the object -/
def z_mst (sh : List z_C) (w : z_Mm) (x v : Nat) (t : List Int) : Prop := z_as t ∧ z_isSt sh x v t.length ∧ w x 1 = 0 ∧ z_tx w v t ∧ 161 ≤ x ∧ 161 ≤ v
theorem z_mst.fr {w w' : z_Mm} (h : z_mst sh w x v t) (f : ∀ a : Nat, 161 ≤ a → a ≠ sh.length → w' a = w a) : z_mst sh w' x v t := by
  obtain ⟨h1, h2, h3, h4, h5, h6⟩ := h
  have l1 := z_ltat h2.1
  have l2 := z_ltat h2.2
  exact ⟨h1, h2, by rw [f x h5 (by omega)]; exact h3, z_tx.cg h4 (f v h6 (by omega)), h5, h6⟩
theorem z_mst.app {w : z_Mm} {l : List z_C} (h : z_mst sh w x v t) : z_mst (sh ++ l) w x v t := by
  obtain ⟨h1, h2, h3, h4, h5, h6⟩ := h
  exact ⟨h1, ⟨by rw [List.getElem?_append_left (z_ltat h2.1)]; exact h2.1, by rw [List.getElem?_append_left (z_ltat h2.2)]; exact h2.2⟩, h3, h4, h5, h6⟩
theorem z_mst.isx {w : z_Mm} (h : z_mst sh w x v t) : z_isx sh w x t := ⟨h.1, Or.inr ⟨v, h.2.1, h.2.2.1, h.2.2.2.1⟩⟩
/-- within a block -/
def z_win (w0 : z_Mm) (b : Nat) (t : List Int) (k : Int) (w : z_Mm) (A : z_A) (H : List z_A) (T : z_T) (er : Int) (s : Nat → Option z_A) (i : Nat) : Prop := z_JC w A H T er s ∧ (∀ q : Nat, q < 5 → w b (q : Int) = z_pkk (z_cht t) (k + 4 * (q : Int)) (z_cnt i q)) ∧ ∀ a : Nat, 161 ≤ a → a ≠ b → w a = w0 a
theorem L_write_48 {z : Nat} {k hd : Int} (hT : z_isTG sh 0) (hsl161 : 161 ≤ sh.length) (hst : z_mst sh w0 x v t) (hlen : t.length ≤ 880) (hk : 0 ≤ k ∧ k ≤ 900)
    (hQ : ∀ w, z_win w0 sh.length t k w A H T er s 20 → z_Sem mL_write (sh.length, z) 107 [(5, z_i 20), (4, z_r sh.length), (3, z_i k), (2, z_i hd), (0, z_r 0), (1, z_r x)] [] (sh ++ [.inr (.inl (0, 5))], w) Q) :
    ∀ (n i : Nat), i + n = 20 → ∀ w, z_win w0 sh.length t k w A H T er s i → z_Sem mL_write (sh.length, z) 48 [(5, z_i (i : Int)), (4, z_r sh.length), (3, z_i k), (2, z_i hd), (0, z_r 0), (1, z_r x)] [] (sh ++ [.inr (.inl (0, 5))], w) Q
  | n, i, hi, w, hl => by
    have hst1 := (hst.fr hl.2.2).app (l := [(.inr (.inl (0, 5)) : z_C)])
    have hrow : (sh ++ [(.inr (.inl (0, 5)) : z_C)])[sh.length]? = some (.inr (.inl (0, 5))) := z_lastat
    refine z_iload 0 dL_write_48 rfl ?_
    refine z_bipush dL_write_50 (by decide) (by decide) ?_
    refine z_icmp_ge (tgt := 107) dL_write_52 (by decide) (fun c => ?_) (fun c => ?_)
    · have : i = 20 := by omega
      subst this
      exact hQ w hl
    · match n, hi with
      | 0, hi => exact absurd (by omega) c
      | n + 1, hi =>
        have hch := z_cht_R hst.1 (k + i)
        have go : z_Sem mL_write (sh.length, z) 79 [(5, z_i (i : Int)), (4, z_r sh.length), (3, z_i k), (2, z_i hd), (0, z_r 0), (1, z_r x)] [z_i (z_cht t (k + i))] (sh ++ [.inr (.inl (0, 5))], w) Q := by
          have e4 : ((i : Int)).tdiv 4 = ((i / 4 : Nat) : Int) := by rw [Int.tdiv_eq_ediv_of_nonneg (by omega)]; omega
          have hq := hl.2.1 (i / 4) (by omega)
          have hc3 : z_cnt i (i / 4) = i % 4 := by unfold z_cnt; split; omega; split; omega; omega
          have hp := z_pkk_R (f := z_cht t) (fun j => z_cht_R hst.1 j) (p := k + 4 * ((i / 4 : Nat) : Int)) (z_cnt i (i / 4)) (by omega)
          generalize hcc : z_cht t (k + i) = cc at hch
          refine z_istore (L' := [(6, z_i cc), (5, z_i (i : Int)), (4, z_r sh.length), (3, z_i k), (2, z_i hd), (0, z_r 0), (1, z_r x)]) dL_write_79 (z_ltk rfl) rfl ?_
          refine z_aload 2 dL_write_81 rfl ?_
          refine z_iload 1 dL_write_83 rfl ?_
          refine z_iconst dL_write_85 (by decide) ?_
          refine z_idiv dL_write_86 (by omega) ?_
          refine z_aload 2 dL_write_87 rfl ?_
          refine z_iload 1 dL_write_89 rfl ?_
          refine z_iconst dL_write_91 (by decide) ?_
          refine z_idiv dL_write_92 (by omega) ?_
          rw [e4]
          refine z_iald dL_write_93 hrow ⟨by omega, by omega⟩ ?_
          show z_Sem mL_write (sh.length, z) 94 _ [z_i (w sh.length ((i / 4 : Nat) : Int)), z_i ((i / 4 : Nat) : Int), z_r sh.length] _ Q
          rw [hq]
          refine z_bipush dL_write_94 (by decide) (by decide) ?_
          refine z_ishl dL_write_96 ?_
          rw [z_sh8 hp]
          refine z_iload 0 dL_write_97 rfl ?_
          refine z_ior dL_write_99 ?_
          rw [z_or8 hp ⟨by omega, by omega⟩]
          refine z_iast dL_write_100 hrow ⟨by omega, by omega⟩ ?_
          refine z_genw (fun w2 hw2 => ?_)
          refine z_iinc (L' := [(5, z_i ((i : Int) + 1)), (6, z_i cc), (4, z_r sh.length), (3, z_i k), (2, z_i hd), (0, z_r 0), (1, z_r x)]) 1 dL_write_101 rfl (z_ltk rfl) rfl ⟨by omega, by omega⟩ ?_
          refine z_sub (L' := [(5, z_i ((i : Int) + 1)), (4, z_r sh.length), (3, z_i k), (2, z_i hd), (0, z_r 0), (1, z_r x)]) [0, 2, 3, 4, 5, 6] rfl ?_
          refine z_goto (tgt := 48) dL_write_104 (by decide) ?_
          refine L_write_48 hT hsl161 hst hlen hk hQ n (i + 1) (by omega) w2 ⟨?_, fun q q5 => ?_, fun a ha hb => ?_⟩
          · subst hw2
            exact hl.1.fr (fun a ha _ => z_Wf (by omega))
          · rw [hw2]
            show (if sh.length = sh.length ∧ (q : Int) = ((i / 4 : Nat) : Int) then _ else w sh.length (q : Int)) = _
            by_cases cq : q = i / 4
            · subst cq
              rw [if_pos ⟨rfl, rfl⟩]
              have e1 : z_cnt (i + 1) (i / 4) = z_cnt i (i / 4) + 1 := by rw [hc3]; unfold z_cnt; split; omega; split; omega; omega
              rw [e1, z_pkk, ← hcc, hc3]
              congr 2
              omega
            · rw [if_neg (fun h => cq (by have := h.2; omega)), hl.2.1 q q5]
              have e1 : z_cnt (i + 1) q = z_cnt i q := by unfold z_cnt; split <;> split <;> (try split) <;> (try split) <;> omega
              rw [e1]
          · rw [hw2, z_Wf hb]
            exact hl.2.2 a ha hb
        refine z_iload_n 2 dL_write_55 rfl rfl ?_
        refine z_iload 0 dL_write_56 rfl ?_
        refine z_iadd dL_write_58 ⟨by omega, by omega⟩ ?_
        refine z_aload_n 5 dL_write_59 rfl rfl ?_
        refine z_callN (vs := [z_r x]) (rest := [z_i (k + i)]) (z_invV (C := "java/lang/String") (As := []) zmJ0_length_8abf5 znJ0_length_8abf5 zsJ0_length_8abf5 zlRL_14 ⟨z_lek rfl, z_lek rfl⟩ dL_write_60 rfl) zmJ0_length_8abf5.2.2.2.2 (fun G p s m args meth c H locs hX hP => z_recx hst1.isx hX hP) rfl (z_ar z_a0) (z_lek rfl) (z_lek rfl) ⟨rfl, rfl⟩ ?_
        refine t_J0_lengthX hst1.isx (by omega) ?_
        show z_Sem mL_write (sh.length, z) 63 [(5, z_i (i : Int)), (4, z_r sh.length), (3, z_i k), (2, z_i hd), (0, z_r 0), (1, z_r x)] [z_i (t.length : Int), z_i (k + i)] (sh ++ [.inr (.inl (0, 5))], w) Q
        refine z_icmp_ge (tgt := 77) dL_write_63 (by decide) (fun c2 => ?_) (fun c2 => ?_)
        · refine z_bipush dL_write_77 (by decide) (by decide) ?_
          have e : z_cht t (k + i) = 32 := by unfold z_cht; rw [if_neg (by omega)]
          rw [e] at go
          exact go
        · refine z_aload_n 5 dL_write_66 rfl rfl ?_
          refine z_iload_n 2 dL_write_67 rfl rfl ?_
          refine z_iload 0 dL_write_68 rfl ?_
          refine z_iadd dL_write_70 ⟨by omega, by omega⟩ ?_
          refine z_callN (vs := [z_r x, z_i (k + i)]) (rest := []) (z_invV (C := "java/lang/String") (As := [z_i (k + i)]) zmJ0_charAt_5068e znJ0_charAt_5068e zsJ0_charAt_5068e zlRL_20 ⟨z_lek rfl, z_lek rfl⟩ dL_write_71 rfl) zmJ0_charAt_5068e.2.2.2.2 (fun G p s m args meth c H locs hX hP => z_recx hst1.isx hX hP) rfl (z_ar (z_ai z_a0)) (z_lek rfl) (z_lek rfl) ⟨rfl, rfl⟩ ?_
          have e : w v (k + i) = z_cht t (k + i) := by
            have := hst1.2.2.2.1.at (k := (k + (i : Int)).toNat) (by omega)
            rw [show (((k + (i : Int)).toNat : Nat) : Int) = k + i by omega] at this
            rw [this, z_cht, if_pos (by omega), List.getElem?_eq_getElem (by omega : (k + (i : Int)).toNat < t.length)]
            rfl
          refine t_J0_charAtM hst1.2.1 hst1.2.2.1 (by omega) ⟨by omega, by omega⟩ (by rw [e]; exact hch) ?_
          rw [e]
          show z_Sem mL_write (sh.length, z) 74 [(5, z_i (i : Int)), (4, z_r sh.length), (3, z_i k), (2, z_i hd), (0, z_r 0), (1, z_r x)] [z_i (z_cht t (k + i))] (sh ++ [.inr (.inl (0, 5))], w) Q
          refine z_goto (tgt := 79) dL_write_74 (by decide) ?_
          exact go
end ZWRITE
