section UX6
variable {ds en kd : Nat → Int32} {x : Int32} {o k n d a : Nat}
theorem ux_V_list (h : ux_V x) : x ∈ ([0, 1, 2, 3, 4, 5, 6, 7, 8, 4096, 4097, 8192, 8193] : List Int32) := by
  rcases h with h | ⟨o, ho, h⟩ | ⟨k, hk, h⟩ | ⟨k, hk, h⟩
  · rw [h]; decide
  · rw [h]
    have : ∀ o, o < 8 → nI (1 + o) ∈ ([0, 1, 2, 3, 4, 5, 6, 7, 8, 4096, 4097, 8192, 8193] : List Int32) := by decide +kernel
    exact this o ho
  · rw [h]
    have : ∀ k, k < 2 → nI (4096 + k) ∈ ([0, 1, 2, 3, 4, 5, 6, 7, 8, 4096, 4097, 8192, 8193] : List Int32) := by decide +kernel
    exact this k hk
  · rw [h]
    have : ∀ k, k < 2 → nI (8192 + k) ∈ ([0, 1, 2, 3, 4, 5, 6, 7, 8, 4096, 4097, 8192, 8193] : List Int32) := by decide +kernel
    exact this k hk
theorem ux_cv_o (h : ux_V x) (ho : o < 8) : ux_cv x = nI (1 + o) ↔ x = nI (1 + o) := by
  have : ∀ x ∈ ([0, 1, 2, 3, 4, 5, 6, 7, 8, 4096, 4097, 8192, 8193] : List Int32), ∀ o, o < 8 → (ux_cv x = nI (1 + o) ↔ x = nI (1 + o)) := by decide +kernel
  exact this x (ux_V_list h) o ho
theorem ux_cv_r (h : ux_V x) (hk : k < 2) : ux_cv x = nI (101 + k) ↔ x = nI (4096 + k) := by
  have : ∀ x ∈ ([0, 1, 2, 3, 4, 5, 6, 7, 8, 4096, 4097, 8192, 8193] : List Int32), ∀ k, k < 2 → (ux_cv x = nI (101 + k) ↔ x = nI (4096 + k)) := by decide +kernel
  exact this x (ux_V_list h) k hk
theorem ux_cv_w (h : ux_V x) (hk : k < 2) : ux_cv x = nI (201 + k) ↔ x = nI (8192 + k) := by
  have : ∀ x ∈ ([0, 1, 2, 3, 4, 5, 6, 7, 8, 4096, 4097, 8192, 8193] : List Int32), ∀ k, k < 2 → (ux_cv x = nI (201 + k) ↔ x = nI (8192 + k)) := by decide +kernel
  exact this x (ux_V_list h) k hk
theorem ux_cv_0 (h : ux_V x) : ux_cv x = 0 ↔ x = 0 := by
  have : ∀ x ∈ ([0, 1, 2, 3, 4, 5, 6, 7, 8, 4096, 4097, 8192, 8193] : List Int32), (ux_cv x = 0 ↔ x = 0) := by decide +kernel
  exact this x (ux_V_list h)
theorem ux_hd_o (hD : ux_D ds) (ho : o < 8) : ux_hd (ux_ED ds) (nI (1 + o)) ↔ ux_hd ds (nI (1 + o)) :=
  ⟨fun ⟨j, hj, e⟩ => ⟨j, hj, (ux_cv_o (hD j hj) ho).mp e⟩, fun ⟨j, hj, e⟩ => ⟨j, hj, (ux_cv_o (hD j hj) ho).mpr e⟩⟩
theorem ux_hd_r (hD : ux_D ds) (hk : k < 2) : ux_hd (ux_ED ds) (nI (101 + k)) ↔ ux_hd ds (nI (4096 + k)) :=
  ⟨fun ⟨j, hj, e⟩ => ⟨j, hj, (ux_cv_r (hD j hj) hk).mp e⟩, fun ⟨j, hj, e⟩ => ⟨j, hj, (ux_cv_r (hD j hj) hk).mpr e⟩⟩
theorem ux_hd_w (hD : ux_D ds) (hk : k < 2) : ux_hd (ux_ED ds) (nI (201 + k)) ↔ ux_hd ds (nI (8192 + k)) :=
  ⟨fun ⟨j, hj, e⟩ => ⟨j, hj, (ux_cv_w (hD j hj) hk).mp e⟩, fun ⟨j, hj, e⟩ => ⟨j, hj, (ux_cv_w (hD j hj) hk).mpr e⟩⟩
/-! names: what an entry names, on both sides -/
theorem ux_nm (hE : ux_E kd en) (hd : d < 10) (ha : a < 15) : (en (d * 15 + a) = 0 ∧ ux_EN en (15 * d + a) = -1) ∨ ∃ n, 0 < n ∧ n < 10 ∧ en (d * 15 + a) = nI n ∧ ux_EN en (15 * d + a) = nI n ∧ kd n ≠ 0 ∧ kd d = 2 := by
  rw [Nat.mul_comm 15 d]
  rcases hE (d * 15 + a) (by omega) with h | ⟨n, n0, n1, n2, n3, n4⟩
  · exact Or.inl ⟨h, ux_EN_0 (by omega) h⟩
  · refine Or.inr ⟨n, n0, n1, n2, ?_, n3, ?_⟩
    · rw [ux_EN_1 (by omega) (by rw [n2]; exact ux_nz n0 (by omega))]; exact n2
    · rw [show (d * 15 + a) / 15 = d by omega] at n4; exact n4
theorem ux_EN_ge (hE : ux_E kd en) (hk : k < 150) : 0 ≤ ux_EN en k ↔ en k ≠ 0 := by
  rcases hE k hk with h | ⟨n, n0, n1, n2, _⟩
  · rw [ux_EN_0 hk h]
    exact ⟨fun z => absurd z (by decide), fun z => absurd h z⟩
  · have : en k ≠ 0 := by rw [n2]; exact ux_nz n0 (by omega)
    rw [ux_EN_1 hk this, n2]
    exact ⟨fun _ => by rw [← n2]; exact this, fun _ => nI_pos' (by omega)⟩
end UX6
