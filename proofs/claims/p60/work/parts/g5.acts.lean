/-! ACTS -/
/-- events beyond the first have names of two letters at most, all names are distinct -/
def z_nmi (A : z_A) : Prop := (∀ e : Int, 1 ≤ e → e < A 1 0 → A 9 e < 1024) ∧ ∀ e f : Int, z_bl (A 1 0) e → z_bl (A 1 0) f → A 9 e = A 9 f → e = f
def z_kn (A B : z_A) : Prop := B 1 0 = A 1 0 ∧ ∀ e : Int, B 9 e = A 9 e
theorem z_kn.nmi {A B : z_A} (h : z_kn A B) (hA : z_nmi A) : z_nmi B := by
  obtain ⟨h1, h2⟩ := h
  obtain ⟨a1, a2⟩ := hA
  refine ⟨fun e e0 e1 => by rw [h2]; exact a1 e e0 (by rw [← h1]; exact e1), fun e f he hf hef => ?_⟩
  rw [h1] at he hf
  rw [h2, h2] at hef
  exact a2 e f he hf hef
theorem z_kn_try {A B : z_A} {H : List z_A} {x y z r : Int} (h : z_kn A B) : z_kn A (z_try A B H x y z r).2.1 := by
  by_cases hb : z_bears B
  · rw [z_try_t hb]; exact h
  · rw [z_try_f hb]; exact ⟨rfl, fun _ => rfl⟩
section ZK9
variable {A : z_A} {H : List z_A}
theorem z_kn_rf : z_kn A A := ⟨rfl, fun _ => rfl⟩
theorem z_kn_tell {a b c d : Int} : z_kn A (z_dtell A H a b c d).2.1 := by
  unfold z_dtell
  split
  · split
    · exact z_kn_rf
    · split <;> exact ⟨rfl, fun _ => rfl⟩
  · exact z_kn_rf
theorem z_kn_drop {g : Int} : z_kn A (z_ddrop A H g).2.1 := by
  unfold z_ddrop
  split <;> exact ⟨rfl, fun _ => rfl⟩
theorem z_kn_set {g n : Int} : z_kn A (z_dset A H g n).2.1 := by
  unfold z_dset
  split
  · split
    · exact z_kn_rf
    · exact z_kn_try ⟨rfl, fun _ => rfl⟩
  · exact z_kn_rf
theorem z_kn_turn {g : Int} : z_kn A (z_dturn A H g).2.1 := by
  unfold z_dturn
  split
  · exact z_kn_try ⟨rfl, fun _ => rfl⟩
  · exact z_kn_rf
theorem z_kn_pin {e t : Int} : z_kn A (z_dpin A H e t).2.1 := by
  unfold z_dpin
  split
  · split
    · exact z_kn_rf
    · exact z_kn_try ⟨rfl, fun _ => rfl⟩
  · exact z_kn_rf
theorem z_kn_unpin {e : Int} : z_kn A (z_dunpin A H e).2.1 := by
  unfold z_dunpin
  split
  · split <;> exact ⟨rfl, fun _ => rfl⟩
  · exact z_kn_rf
theorem z_kn_end {n : Int} : z_kn A (z_dend A H n).2.1 := by
  unfold z_dend
  split
  · split
    · exact z_kn_rf
    · exact z_kn_try ⟨rfl, fun _ => rfl⟩
  · exact z_kn_rf
theorem z_kn_rev {g : Int} : z_kn A (z_drev A H g).2.1 := by
  unfold z_drev
  split
  · exact z_kn_try ⟨rfl, fun _ => rfl⟩
  · exact z_kn_rf
theorem z_kn_tight : z_kn A (z_dtight A H).2.1 := by
  unfold z_dtight
  split
  · exact z_kn_rf
  · refine ⟨?_, fun e => ?_⟩
    · show z_tp A (A 2 0) 1 0 = A 1 0
      unfold z_tp
      rw [if_neg (fun q => absurd q.1 (by decide))]
    · show z_tp A (A 2 0) 9 e = A 9 e
      unfold z_tp
      rw [if_neg (fun q => absurd q.1 (by decide))]
theorem z_kn_thinN : ∀ (k : Nat) (A : z_A), z_kn A (z_thinN k A)
  | 0, _ => z_kn_rf
  | k + 1, A => by
    rw [z_thinN]
    split
    · exact z_kn_rf
    · have := z_kn_thinN k (z_cut A (z_fn A))
      exact ⟨this.1, fun e => this.2 e⟩
theorem z_kn_thin : z_kn A (z_dthin A H).2.1 := by
  unfold z_dthin
  split
  · exact z_kn_rf
  · exact z_kn_thinN 24 A
theorem z_kn_pall : z_kn A (z_dpall A H).2.1 := by
  unfold z_dpall
  split
  · exact z_kn_rf
  · refine ⟨?_, fun e => ?_⟩
    · show z_pp A (A 1 0) 1 0 = A 1 0
      unfold z_pp
      rw [if_neg (fun q => absurd q.1 (by decide))]
    · show z_pp A (A 1 0) 9 e = A 9 e
      unfold z_pp
      rw [if_neg (fun q => absurd q.1 (by decide))]
end ZK9
/-- a new name of two letters -/
theorem z_nmd_n {A : z_A} {v : Int} (hn : 0 ≤ A 1 0) (h : z_nmd A v = -2) : ∀ e : Int, z_bl (A 1 0) e → A 9 e ≠ v := by
  unfold z_nmd at h
  rcases z_fi1_is (p := fun e => A 9 e = v) hn with ⟨-, h2⟩ | ⟨v0, -⟩
  · exact fun e he => h2 e he.1 he.2
  · omega
theorem z_nmi_open {A : z_A} {H : List z_A} {T : z_T} (hn : 1 ≤ A 1 0) (hv : z_nnp A T → z_tn0 T < 1024) (h : z_nmi A) : z_nmi (z_dopen A H T).2.1 := by
  unfold z_dopen
  split
  · rename_i hnn
    split
    · exact h
    · have hne := z_nmd_n (by omega) hnn.2
      have hv' := hv hnn
      obtain ⟨a1, a2⟩ := h
      have e1 : z_note (z_opn A (z_tn0 T)) 0 (A 1 0) (A 1 0 + 1) 1 0 = A 1 0 + 1 := rfl
      have e9 : ∀ e : Int, z_note (z_opn A (z_tn0 T)) 0 (A 1 0) (A 1 0 + 1) 9 e = if e = A 1 0 then z_tn0 T else A 9 e := fun e => by
        show z_opn A (z_tn0 T) 9 e = _
        unfold z_opn z_up
        by_cases c : e = A 1 0
        · simp [c]
        · simp [c]
      refine ⟨fun e e0 e1' => ?_, fun e f he hf hef => ?_⟩
      · show z_note (z_opn A (z_tn0 T)) 0 (A 1 0) (A 1 0 + 1) 9 e < 1024
        have e1'' : e < A 1 0 + 1 := e1'
        rw [e9]
        split
        · exact hv'
        · exact a1 e e0 (by omega)
      · have he1 : z_bl (A 1 0 + 1) e := he
        have hf1 : z_bl (A 1 0 + 1) f := hf
        have hef1 : z_note (z_opn A (z_tn0 T)) 0 (A 1 0) (A 1 0 + 1) 9 e = z_note (z_opn A (z_tn0 T)) 0 (A 1 0) (A 1 0 + 1) 9 f := hef
        rw [e9, e9] at hef1
        split at hef1 <;> split at hef1
        · omega
        · exact absurd hef1.symm (hne f ⟨hf1.1, by have := hf1.2; omega⟩)
        · exact absurd hef1 (hne e ⟨he1.1, by have := he1.2; omega⟩)
        · exact a2 e f ⟨he1.1, by have := he1.2; omega⟩ ⟨hf1.1, by have := hf1.2; omega⟩ hef1
  · exact h
theorem z_nmi_ren {A : z_A} {H : List z_A} {T : z_T} {e0 : Int} (hn : 1 ≤ A 1 0) (hv : z_nnp A T → z_tn0 T < 1024) (h : z_nmi A) : z_nmi (z_dren A H T e0).2.1 := by
  unfold z_dren
  split
  · rename_i he0
    split
    · rename_i hnn
      split
      · exact h
      · have hne := z_nmd_n (by omega) hnn.2
        have hv' := hv hnn
        obtain ⟨a1, a2⟩ := h
        have e9 : ∀ e : Int, z_note (z_up A 9 e0 (z_tn0 T)) 9 e0 T.1 9 e = if e = e0 then z_tn0 T else A 9 e := fun e => by
          show z_up A 9 e0 (z_tn0 T) 9 e = _
          unfold z_up
          by_cases c : e = e0
          · simp [c]
          · simp [c]
        refine ⟨fun e e1 e2 => ?_, fun e f he hf hef => ?_⟩
        · show z_note (z_up A 9 e0 (z_tn0 T)) 9 e0 T.1 9 e < 1024
          have e2' : e < A 1 0 := e2
          rw [e9]
          split
          · exact hv'
          · exact a1 e e1 e2'
        · have he1 : z_bl (A 1 0) e := he
          have hf1 : z_bl (A 1 0) f := hf
          have hef1 : z_note (z_up A 9 e0 (z_tn0 T)) 9 e0 T.1 9 e = z_note (z_up A 9 e0 (z_tn0 T)) 9 e0 T.1 9 f := hef
          rw [e9, e9] at hef1
          split at hef1 <;> split at hef1
          · omega
          · exact absurd hef1.symm (hne f hf1)
          · exact absurd hef1 (hne e he1)
          · exact a2 e f he1 hf1 hef1
    · exact h
  · exact h
/-- a name on the tape -/
theorem z_tn2 {T : z_T} {ch : Int → Int} (h : z_tpx T 2 ch) (h0 : ch 0 = 110) (h1 : 97 ≤ ch 1 ∧ ch 1 ≤ 122) {A : z_A} (hn : z_nnp A T) : z_tn0 T < 1024 := by
  obtain ⟨ha, hb⟩ := h
  have hn1 := hn.1
  unfold z_tn0 at hn1 ⊢
  split
  · rw [z_tw, ha, show (2 : Int).toNat = 2 from rfl, z_wx2]
    show 32 * (T.2 (0 + 0) - 96) + (T.2 (0 + 1) - 96) < 1024
    rw [show (0 : Int) + 0 = 0 from rfl, show (0 : Int) + 1 = 1 from rfl, hb 0 (by decide) (by decide), hb 1 (by decide) (by decide)]
    omega
  · decide
