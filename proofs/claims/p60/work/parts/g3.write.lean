section ZWRITE2
variable {sh : List z_C} {w0 : z_Mm} {Q : Option z_V → z_S → Prop} {A : z_A} {H : List z_A} {T : z_T} {er : Int} {s : Nat → Option z_A} {x v : Nat} {t : List Int}
theorem z_pkk4 {f : Int → Int} {p : Int} : z_pkk f p 4 = 256 * (256 * (256 * f p + f (p + 1)) + f (p + 2)) + f (p + 3) := by
  show 256 * (256 * (256 * (256 * 0 + f (p + ((0 : Nat) : Int))) + f (p + ((1 : Nat) : Int))) + f (p + ((2 : Nat) : Int))) + f (p + ((3 : Nat) : Int)) = _
  rw [show p + ((0 : Nat) : Int) = p by omega, show p + ((1 : Nat) : Int) = p + 1 by omega, show p + ((2 : Nat) : Int) = p + 2 by omega, show p + ((3 : Nat) : Int) = p + 3 by omega]
  omega
theorem z_dap_t {T : z_T} {n : Int} {ch : Int → Int} {a b c d e : Int} (h : z_tpx T n ch) (hn : n ≤ 880) (hc : ∀ i, 0 ≤ ch i ∧ ch i < 128) (ha : a = z_pkk ch n 4) (hb : b = z_pkk ch (n + 4) 4) (hcc : c = z_pkk ch (n + 8) 4) (hd : d = z_pkk ch (n + 12) 4) (he : e = z_pkk ch (n + 16) 4) : z_tpx (z_dap T a b c d e).2 (n + 20) ch := by
  rw [z_pkk4] at ha hb hcc hd he
  rw [z_dap, if_pos (by have := h.1; omega)]
  have h1 := h.t4 hc ha
  have h2 := h1.t4 hc hb
  rw [show n + 4 + 4 = n + 8 by omega] at h2
  have h3 := h2.t4 hc hcc
  rw [show n + 8 + 4 = n + 12 by omega] at h3
  have h4 := h3.t4 hc hd
  rw [show n + 12 + 4 = n + 16 by omega] at h4
  have h5 := h4.t4 hc he
  rw [show n + 16 + 4 = n + 20 by omega] at h5
  exact h5
/-- what write leaves behind -/
def z_wrQ (w0 : z_Mm) (sh : List z_C) (A : z_A) (H : List z_A) (er : Int) (s : Nat → Option z_A) (t : List Int) (K : z_Mm → Prop) : Prop := ∀ (w : z_Mm) (T : z_T), z_JC w A H T er s → z_tpx T (t.length : Int) (z_cht t) → (∀ a : Nat, 161 ≤ a → a ≠ sh.length → w a = w0 a) → K w
theorem L_write_32 {hd : Int} (hT : z_isTG sh 0) (hsl161 : 161 ≤ sh.length) (hsl : sh.length < 900) (hlo : z_cls0 sh) (hst : z_mst sh w0 x v t) (hlen : t.length ≤ 880) (hQ : z_wrQ w0 sh A H er s t (fun w => Q none (sh, w))) :
    ∀ (n j : Nat), t.length ≤ 20 * j + 20 * n → 20 * j < t.length + 20 → ∀ (w : z_Mm) (T : z_T) (hd : Int), z_JC w A H T er s → z_tpx T (20 * (j : Int)) (z_cht t) → (∀ a : Nat, 161 ≤ a → a ≠ sh.length → w a = w0 a) → z_Sem mL_write (sh.length, 5 * j) 32 [(3, z_i (20 * (j : Int))), (2, z_i hd), (0, z_r 0), (1, z_r x)] [] (sh, w) Q
  | n, j, hn, hj, w, T, hd, hl, hp, hf => by
    have hstw := hst.fr hf
    have hxl := z_ltat hst.2.1.1
    refine z_iload_n 0 dL_write_32 rfl rfl ?_
    refine z_aload_n 3 dL_write_33 rfl rfl ?_
    refine z_callN (vs := [z_r x]) (rest := [z_i (20 * (j : Int))]) (z_invV (C := "java/lang/String") (As := []) zmJ0_length_8abf5 znJ0_length_8abf5 zsJ0_length_8abf5 zlRL_14 ⟨z_lek rfl, z_lek rfl⟩ dL_write_34 rfl) zmJ0_length_8abf5.2.2.2.2 (fun G p s m args meth c H locs hX hP => z_recx hstw.isx hX hP) rfl (z_ar z_a0) (z_lek rfl) (z_lek rfl) ⟨rfl, rfl⟩ ?_
    refine t_J0_lengthX hstw.isx (by omega) ?_
    show z_Sem mL_write (sh.length, 5 * j) 37 [(3, z_i (20 * (j : Int))), (2, z_i hd), (0, z_r 0), (1, z_r x)] [z_i (t.length : Int), z_i (20 * (j : Int))] (sh, w) Q
    refine z_icmp_ge (tgt := 138) dL_write_37 (by decide) (fun c => ?_) (fun c => ?_)
    · refine z_aload_n 2 dL_write_138 rfl rfl ?_
      refine z_bipush dL_write_139 (by decide) (by decide) ?_
      refine z_aload_n 3 dL_write_141 rfl rfl ?_
      refine z_callN (vs := [z_r x]) (rest := [z_i 20, z_r 0]) (z_invV (C := "java/lang/String") (As := []) zmJ0_length_8abf5 znJ0_length_8abf5 zsJ0_length_8abf5 zlRL_14 ⟨z_lek rfl, z_lek rfl⟩ dL_write_142 rfl) zmJ0_length_8abf5.2.2.2.2 (fun G p s m args meth c H locs hX hP => z_recx hstw.isx hX hP) rfl (z_ar z_a0) (z_lek rfl) (z_lek rfl) ⟨rfl, rfl⟩ ?_
      refine t_J0_lengthX hstw.isx (by omega) ?_
      show z_Sem mL_write (sh.length, 5 * j) 145 [(3, z_i (20 * (j : Int))), (2, z_i hd), (0, z_r 0), (1, z_r x)] [z_i (t.length : Int), z_i 20, z_r 0] (sh, w) Q
      refine z_bipush dL_write_145 (by decide) (by decide) ?_
      refine z_irem dL_write_147 (by decide) ?_
      have e1 : (t.length : Int).tmod 20 = (t.length : Int) % 20 := z_tm (by omega)
      rw [e1]
      refine z_isub dL_write_148 ⟨by omega, by omega⟩ ?_
      refine z_bipush dL_write_149 (by decide) (by decide) ?_
      refine z_irem dL_write_151 (by decide) ?_
      have e2 : (20 - (t.length : Int) % 20).tmod 20 = 20 * (j : Int) - t.length := by rw [z_tm (by omega)]; omega
      rw [e2]
      have hp1 := hp.1
      refine z_goU (As := [z_i (20 * (j : Int) - t.length)]) (rest := []) zmX8_truncate znX8_truncate zsX8_truncate zlRL_8 ⟨z_lek rfl, z_lek rfl⟩ dL_write_152 hT rfl rfl (z_ai z_a0) (z_lek rfl) (z_lek rfl) ⟨rfl, rfl⟩ uc_truncate hl (fun w1 hl1 hf1 => ?_)
      rw [z_dtr, if_pos ⟨by omega, by omega⟩] at hl1 ⊢
      refine z_istore_n (L' := [(2, z_i (T.1 - (20 * (j : Int) - t.length))), (3, z_i (20 * (j : Int))), (0, z_r 0), (1, z_r x)]) dL_write_155 rfl (z_ltk rfl) rfl ?_
      refine z_ret (v := none) dL_write_156 ⟨rfl, rfl⟩ rfl (hQ w1 _ hl1 ⟨by show T.1 - _ = _; omega, fun i i0 i1 => hp.2 i i0 (by omega)⟩ (fun a ha hb => (hf1 a ha).trans (hf a ha hb)))
    · match n, hn with
      | 0, hn => exact absurd (by omega) c
      | n + 1, hn =>
        refine z_iconst dL_write_40 (by decide) ?_
        refine z_newa (N := 5) (kd := 0) (Or.inl ⟨rfl, rfl⟩) z_awi (by decide) (show sh.length < 1000 by omega) hlo (fun q hq => ?_) (fun q hq => by cases hq) (by decide) ⟨by show 5 * j + 5 ≤ 256; omega, by show 5 * j + 5 ≤ 256; omega⟩ dL_write_41 ?_
        · simp only [List.mem_cons, List.not_mem_nil, or_false] at hq
          rcases hq with rfl | rfl | rfl | rfl
          · exact True.intro
          · exact True.intro
          · exact Or.inl (by show 0 < sh.length; omega)
          · exact Or.inl hxl
        · refine z_gennw (fun w1 hw1 hw2 => ?_)
          refine z_astore (L' := [(4, z_r sh.length), (3, z_i (20 * (j : Int))), (2, z_i hd), (0, z_r 0), (1, z_r x)]) dL_write_43 (z_ltk rfl) rfl ?_
          refine z_iconst dL_write_45 (by decide) ?_
          refine z_istore (L' := [(5, z_i 0), (4, z_r sh.length), (3, z_i (20 * (j : Int))), (2, z_i hd), (0, z_r 0), (1, z_r x)]) dL_write_46 (z_ltk rfl) rfl ?_
          have hl1 : z_JC w1 A H T er s := hl.fr (fun a ha _ => hw2 a (by omega))
          refine L_write_48 hT hsl161 hst hlen ⟨by omega, by omega⟩ (fun w2 hw => ?_) 20 0 rfl w1 ⟨hl1, fun q q5 => by rw [hw1]; unfold z_cnt; rw [if_pos (by omega)]; rfl, fun a ha hb => (hw2 a hb).trans (hf a ha hb)⟩
          have hrow : (sh ++ [(.inr (.inl (0, 5)) : z_C)])[sh.length]? = some (.inr (.inl (0, 5))) := z_lastat
          have hcq : ∀ q : Nat, q < 5 → z_cnt 20 q = 4 := fun q hq => by unfold z_cnt; rw [if_neg (by omega), if_pos (by omega)]
          have hR : ∀ q : Nat, q < 5 → z_R (w2 sh.length (q : Int)) ∧ w2 sh.length (q : Int) = z_pkk (z_cht t) (20 * (j : Int) + 4 * (q : Int)) 4 := fun q hq => by
            have h1 := hw.2.1 q hq
            rw [hcq q hq] at h1
            have h3 := z_pkk_R (f := z_cht t) (fun i => z_cht_R hst.1 i) (p := 20 * (j : Int) + 4 * (q : Int)) 3 (Nat.le_refl _)
            have h4 := z_cht_R hst.1 (20 * (j : Int) + 4 * (q : Int) + ((3 : Nat) : Int))
            have h5 : z_pkk (z_cht t) (20 * (j : Int) + 4 * (q : Int)) 4 = 256 * z_pkk (z_cht t) (20 * (j : Int) + 4 * (q : Int)) 3 + z_cht t (20 * (j : Int) + 4 * (q : Int) + ((3 : Nat) : Int)) := rfl
            exact ⟨by rw [h1, h5]; constructor <;> omega, h1⟩
          have r0 := hR 0 (by decide)
          have r1 := hR 1 (by decide)
          have r2 := hR 2 (by decide)
          have r3 := hR 3 (by decide)
          have r4 := hR 4 (by decide)
          refine z_aload_n 4 dL_write_107 rfl rfl ?_
          refine z_aload 1 dL_write_108 rfl ?_
          refine z_iconst dL_write_110 (by decide) ?_
          refine z_iald dL_write_111 hrow (by decide) ?_
          refine z_aload 1 dL_write_112 rfl ?_
          refine z_iconst dL_write_114 (by decide) ?_
          refine z_iald dL_write_115 hrow (by decide) ?_
          refine z_aload 1 dL_write_116 rfl ?_
          refine z_iconst dL_write_118 (by decide) ?_
          refine z_iald dL_write_119 hrow (by decide) ?_
          refine z_aload 1 dL_write_120 rfl ?_
          refine z_iconst dL_write_122 (by decide) ?_
          refine z_iald dL_write_123 hrow (by decide) ?_
          refine z_aload 1 dL_write_124 rfl ?_
          refine z_iconst dL_write_126 (by decide) ?_
          refine z_iald dL_write_127 hrow (by decide) ?_
          have hp1 := hp.1
          have htp := z_dap_t hp (by omega) (fun i => z_cht_R hst.1 i) (a := w2 sh.length 0) (b := w2 sh.length 1) (c := w2 sh.length 2) (d := w2 sh.length 3) (e := w2 sh.length 4)
            (by rw [show w2 sh.length 0 = w2 sh.length ((0 : Nat) : Int) from rfl, r0.2]; congr 1) (by rw [show w2 sh.length 1 = w2 sh.length ((1 : Nat) : Int) from rfl, r1.2]; congr 1) (by rw [show w2 sh.length 2 = w2 sh.length ((2 : Nat) : Int) from rfl, r2.2]; congr 1) (by rw [show w2 sh.length 3 = w2 sh.length ((3 : Nat) : Int) from rfl, r3.2]; congr 1) (by rw [show w2 sh.length 4 = w2 sh.length ((4 : Nat) : Int) from rfl, r4.2]; congr 1)
          refine z_goU (As := [z_i (w2 sh.length 0), z_i (w2 sh.length 1), z_i (w2 sh.length 2), z_i (w2 sh.length 3), z_i (w2 sh.length 4)]) (rest := []) zmX8_append znX8_append zsX8_append zlRL_24 ⟨z_lek rfl, z_lek rfl⟩ dL_write_128 (z_TGapp hT) rfl rfl (z_ai (z_ai (z_ai (z_ai (z_ai z_a0))))) (z_lek rfl) (z_lek rfl) ⟨rfl, rfl⟩ (uc_append r0.1 r1.1 r2.1 r3.1 r4.1) hw.1 (fun w3 hl3 hf3 => ?_)
          generalize (z_dap T (w2 sh.length 0) (w2 sh.length 1) (w2 sh.length 2) (w2 sh.length 3) (w2 sh.length 4)) = D at hl3 htp ⊢
          show z_Sem mL_write (sh.length, 5 * j + 5) 131 [(5, z_i 20), (4, z_r sh.length), (3, z_i (20 * (j : Int))), (2, z_i hd), (0, z_r 0), (1, z_r x)] [z_i D.1] (sh ++ [.inr (.inl (0, 5))], w3) Q
          refine z_istore_n (L' := [(2, z_i D.1), (5, z_i 20), (4, z_r sh.length), (3, z_i (20 * (j : Int))), (0, z_r 0), (1, z_r x)]) dL_write_131 rfl (z_ltk rfl) rfl ?_
          refine z_iinc (L' := [(3, z_i (20 * (j : Int) + 20)), (2, z_i D.1), (5, z_i 20), (4, z_r sh.length), (0, z_r 0), (1, z_r x)]) 3 dL_write_132 rfl (z_ltk rfl) rfl ⟨by omega, by omega⟩ ?_
          refine z_sub (L' := [(3, z_i (20 * (j : Int) + 20)), (2, z_i D.1), (0, z_r 0), (1, z_r x)]) [0, 1, 4, 5] rfl ?_
          refine z_goto (tgt := 32) dL_write_135 (by decide) ?_
          refine z_fgt sh.length (Nat.le_refl _) ?_
          rw [show ((sh ++ [(.inr (.inl (0, 5)) : z_C)], w3) : z_S).1.take sh.length = sh from List.take_left]
          have := L_write_32 (hd := 0) hT hsl161 hsl hlo hst hlen hQ n (j + 1) (by omega) (by omega) w3 D.2 D.1 hl3 (by rw [show 20 * ((j + 1 : Nat) : Int) = 20 * (j : Int) + 20 by omega]; exact htp) (fun a ha hb => (hf3 a ha).trans (hw.2.2 a ha hb))
          rw [show 20 * ((j + 1 : Nat) : Int) = 20 * (j : Int) + 20 by omega] at this
          exact this
/-- write -/
theorem L_write {w : z_Mm} (hT : z_isTG sh 0) (hsl161 : 161 ≤ sh.length) (hsl : sh.length < 900) (hlo : z_cls0 sh) (hst : z_mst sh w x v t) (hlen : t.length ≤ 880) (h : z_JC w A H T er s) (hT0 : T.1 = 0) (hQ : z_wrQ w sh A H er s t (fun w => Q none (sh, w))) : z_Sem mL_write (sh.length, 0) 0 [(0, z_r 0), (1, z_r x)] [] (sh, w) Q := by
  refine z_aload_n 0 dL_write_0 rfl rfl ?_
  refine z_iconst dL_write_1 (by decide) ?_
  refine z_goU (As := [z_i 0]) (rest := []) zmX8_truncate znX8_truncate zsX8_truncate zlRL_8 ⟨z_lek rfl, z_lek rfl⟩ dL_write_2 hT rfl rfl (z_ai z_a0) (z_lek rfl) (z_lek rfl) ⟨rfl, rfl⟩ uc_truncate h (fun w1 hl1 hf1 => ?_)
  rw [z_dtr, if_pos ⟨by decide, by omega⟩, hT0] at hl1 ⊢
  show z_Sem mL_write (sh.length, 0) 5 [(0, z_r 0), (1, z_r x)] [z_i 0] (sh, w1) Q
  refine z_istore_n (L' := [(2, z_i 0), (0, z_r 0), (1, z_r x)]) dL_write_5 rfl (z_ltk rfl) rfl ?_
  refine z_iload_n 0 dL_write_6 rfl rfl ?_
  refine z_if_le (tgt := 30) dL_write_7 (by decide) (fun _ => ?_) (fun c => absurd (Int.le_refl _) c)
  refine z_iconst dL_write_30 (by decide) ?_
  refine z_istore_n (L' := [(3, z_i 0), (2, z_i 0), (0, z_r 0), (1, z_r x)]) dL_write_31 rfl (z_ltk rfl) rfl ?_
  exact L_write_32 (w0 := w) (hd := 0) hT hsl161 hsl hlo hst hlen hQ t.length 0 (by omega) (by omega) w1 _ 0 hl1 ⟨rfl, fun i i0 i1 => absurd i1 (by omega)⟩ (fun a ha _ => hf1 a ha)
end ZWRITE2
