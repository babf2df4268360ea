section UX0
/-! numbers against literals -/
theorem ux_lit (k : Nat) : (OfNat.ofNat k : Int32) = nI k := rfl
theorem ux_le_l {a k : Nat} (ha : a < 2 ^ 31) (hk : k < 2 ^ 31) : nI a ≤ (OfNat.ofNat k : Int32) ↔ a ≤ k := nI_leI ha hk
theorem ux_lt_l {a k : Nat} (ha : a < 2 ^ 31) (hk : k < 2 ^ 31) : nI a < (OfNat.ofNat k : Int32) ↔ a < k := nI_ltI ha hk
theorem ux_eq_l {a k : Nat} (ha : a < 2 ^ 31) (hk : k < 2 ^ 31) : nI a = (OfNat.ofNat k : Int32) ↔ a = k := nI_eq ha hk
theorem ux_l_le {a k : Nat} (ha : a < 2 ^ 31) (hk : k < 2 ^ 31) : (OfNat.ofNat k : Int32) ≤ nI a ↔ k ≤ a := nI_leI hk ha
theorem ux_l_lt {a k : Nat} (ha : a < 2 ^ 31) (hk : k < 2 ^ 31) : (OfNat.ofNat k : Int32) < nI a ↔ k < a := nI_ltI hk ha
theorem ux_l_eq {a k : Nat} (ha : a < 2 ^ 31) (hk : k < 2 ^ 31) : (OfNat.ofNat k : Int32) = nI a ↔ k = a := nI_eq hk ha
theorem ux_mulN (a b : Nat) : nI a * nI b = nI (a * b) := (Int32.ofNat_mul a b).symm
theorem ux_mul_l (a k : Nat) : nI a * (OfNat.ofNat k : Int32) = nI (a * k) := ux_mulN a k
theorem ux_l_mul (a k : Nat) : (OfNat.ofNat k : Int32) * nI a = nI (k * a) := ux_mulN k a
theorem ux_add_l (a k : Nat) : nI a + (OfNat.ofNat k : Int32) = nI (a + k) := nI_add a k
theorem ux_l_add (a k : Nat) : (OfNat.ofNat k : Int32) + nI a = nI (k + a) := nI_add k a
theorem ux_subN {a b : Nat} (h : b ≤ a) : nI a - nI b = nI (a - b) := by
  obtain ⟨c, rfl⟩ : ∃ c, a = c + b := ⟨a - b, by omega⟩
  rw [← nI_add, Int32.add_sub_cancel, Nat.add_sub_cancel]
theorem ux_sub_l {a k : Nat} (h : k ≤ a) : nI a - (OfNat.ofNat k : Int32) = nI (a - k) := ux_subN h
theorem ux_so (o : Nat) : nI (1 + o) - 1 = nI o := by rw [Nat.add_comm]; exact nI_pred o
theorem ux_add2 (e : Nat) : nI e + 2 = nI (e + 2) := nI_add e 2
theorem ux_s101 (k : Nat) : nI (101 + k) - 101 = nI k := by
  have h := ux_subN (a := 101 + k) (b := 101) (by omega)
  rw [show 101 + k - 101 = k by omega] at h
  exact h
theorem ux_s201 (k : Nat) : nI (201 + k) - 201 = nI k := by
  have h := ux_subN (a := 201 + k) (b := 201) (by omega)
  rw [show 201 + k - 201 = k by omega] at h
  exact h
theorem ux_s100 (k : Nat) : nI (201 + k) - 100 = nI (101 + k) := by
  have h := ux_subN (a := 201 + k) (b := 100) (by omega)
  rw [show 201 + k - 100 = 101 + k by omega] at h
  exact h
theorem ux_a100 (k : Nat) : nI (101 + k) + 100 = nI (201 + k) := by
  have h := nI_add (101 + k) 100
  rw [show 101 + k + 100 = 201 + k by omega] at h
  exact h
/-- a number from 0 to n - 1, or outside -/
theorem ux_rg (x : Int32) (n : Nat) (hn : n < 2 ^ 31) : (∃ a : Nat, a < n ∧ x = nI a) ∨ x < 0 ∨ (¬ x < 0 ∧ nI n ≤ x) := by
  by_cases h : x < 0
  · exact Or.inr (Or.inl h)
  · obtain ⟨j, hj, rfl⟩ := nI_of h
    by_cases h2 : j < n
    · exact Or.inl ⟨j, h2, rfl⟩
    · exact Or.inr (Or.inr ⟨h, nI_le (by omega) hj⟩)
theorem ux_ng {x : Int32} (h : x < 0) : ¬ 0 ≤ x := Int32.not_le.mpr h
theorem ux_nl {x : Int32} (h : ¬ x < 0) : 0 ≤ x := Int32.not_lt.mp h
theorem ux_hi {x : Int32} {n : Nat} (h : nI n ≤ x) : ¬ x < nI n := Int32.not_lt.mpr h
theorem ux_hi1 {x : Int32} {n : Nat} (hn : n + 1 < 2 ^ 31) (h : nI (n + 1) ≤ x) : ¬ x ≤ nI n := by
  intro h2
  exact nI_ge (a := n) (b := n + 1) (by omega) hn (Int32.le_trans h h2)
/-- a field of two bits -/
theorem ux_b2 (x : Int32) : ∃ j : Nat, j < 4 ∧ x &&& 3 = nI j := by
  refine ⟨x.toBitVec.toNat % 4, Nat.mod_lt _ (by decide), ?_⟩
  apply Int32.toBitVec_inj.mp
  apply BitVec.eq_of_toNat_eq
  rw [Int32.toBitVec_and, BitVec.toNat_and]
  show x.toBitVec.toNat &&& (2 ^ 2 - 1) = (BitVec.ofNat 32 _).toNat
  rw [Nat.and_two_pow_sub_one_eq_mod, BitVec.toNat_ofNat]
  have := x.toBitVec.isLt
  omega
theorem ux_b5 (x : Int32) : ∃ j : Nat, j < 32 ∧ x &&& 31 = nI j := by
  refine ⟨x.toBitVec.toNat % 32, Nat.mod_lt _ (by decide), ?_⟩
  apply Int32.toBitVec_inj.mp
  apply BitVec.eq_of_toNat_eq
  rw [Int32.toBitVec_and, BitVec.toNat_and]
  show x.toBitVec.toNat &&& (2 ^ 5 - 1) = (BitVec.ofNat 32 _).toNat
  rw [Nat.and_two_pow_sub_one_eq_mod, BitVec.toNat_ofNat]
  have := x.toBitVec.isLt
  omega
end UX0
