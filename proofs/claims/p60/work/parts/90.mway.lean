/-! the reference lays a way -/
theorem z_ld.fr {w w' : z_Mm} {A : z_A} (h : z_ld w A) (h13 : w' 161 13 = w 161 13) (hf : ∀ c : Nat, 168 ≤ c → c ≤ 172 → w' c = w c) : z_ld w' A := by
  obtain ⟨h1, h2, h3⟩ := h
  refine ⟨by rw [h13]; exact h1, h2.fr (fun a a0 a1 => hf a (by omega) (by omega)), ?_⟩
  unfold z_mx
  rw [hf 172 (by omega) (by omega)]
  exact h3
theorem z_frX.way {w w' : z_Mm} (h : ∀ c : Nat, c ≠ 173 → c ≠ 174 → w' c = w c) : z_frX w w' := ⟨fun a ha => h a (by omega) (by omega), by rw [h 161 (by omega) (by omega)], by rw [h 161 (by omega) (by omega)]⟩
theorem z_ms.way {w w' : z_Mm} {A : z_A} {H : List z_A} (hs : z_ms w A H) (h : ∀ c : Nat, c ≠ 173 → c ≠ 174 → w' c = w c) : z_ms w' A H := ⟨by rw [h 163 (by omega) (by omega)]; exact hs.1, hs.2.fr (by rw [h 161 (by omega) (by omega)]) (h 165 (by omega) (by omega))⟩
