section UX1
/-! A: stores and numbers -/
theorem ux_us {f : Nat → Int32} {k : Nat} {x : Int32} : upd f k x k = x := if_pos rfl
theorem ux_un {f : Nat → Int32} {k j : Nat} {x : Int32} (h : j ≠ k) : upd f k x j = f j := if_neg h
theorem ux_uu {f : Nat → Int32} {k : Nat} {x y : Int32} : upd (upd f k x) k y = upd f k y := by
  funext j
  by_cases h : j = k
  · rw [h, ux_us, ux_us]
  · rw [ux_un h, ux_un h, ux_un h]
theorem ux_uc {f : Nat → Int32} {k i : Nat} {x y : Int32} (h : k ≠ i) : upd (upd f k x) i y = upd (upd f i y) k x := by
  funext j
  by_cases h1 : j = k
  · subst h1
    rw [ux_un h, ux_us, ux_us]
  · by_cases h2 : j = i
    · subst h2
      rw [ux_us, ux_un h1, ux_us]
    · rw [ux_un h2, ux_un h1, ux_un h1, ux_un h2]
theorem ux_ue {f : Nat → Int32} {k : Nat} {x : Int32} (h : f k = x) : upd f k x = f := by
  funext j
  by_cases h1 : j = k
  · rw [h1, ux_us, h]
  · rw [ux_un h1]
theorem ux_inj {a b : Nat} (h : nI a = nI b) (ha : a < 100000) (hb : b < 100000) : a = b := (nI_eq (by omega) (by omega)).mp h
theorem ux_ne {a b : Nat} (h : a ≠ b) (ha : a < 100000) (hb : b < 100000) : nI a ≠ nI b := fun e => h (ux_inj e ha hb)
theorem ux_m1 (n : Nat) : nI (n + 1) + (-1) = nI n := by
  rw [← nI_1, Int32.add_assoc, show (1 : Int32) + (-1) = 0 from rfl, Int32.add_zero]
theorem ux_neg1 {a : Nat} (h : a < 2 ^ 31) : nI a ≠ -1 := by
  intro e
  have h1 := nI_pos (n := a) h
  rw [e] at h1
  exact h1 (by decide)
theorem ux_mul (a b : Nat) : nI a * nI b = nI (a * b) := (Int32.ofNat_mul a b).symm
theorem ux_sub {a b : Nat} (h : b ≤ a) : nI a - nI b = nI (a - b) := by
  obtain ⟨c, rfl⟩ : ∃ c, a = c + b := ⟨a - b, by omega⟩
  rw [← nI_add, Int32.add_sub_cancel, Nat.add_sub_cancel]
theorem ux_ix (x : Int32) {n : Nat} (hn : n < 2 ^ 31) : x < 0 ∨ nI n ≤ x ∨ ∃ j : Nat, j < n ∧ x = nI j := by
  by_cases h : x < 0
  · exact Or.inl h
  · obtain ⟨j, hj, rfl⟩ := nI_of h
    by_cases h2 : j < n
    · exact Or.inr (Or.inr ⟨j, h2, rfl⟩)
    · exact Or.inr (Or.inl (nI_le (by omega) hj))
/-- the least index below n with P, or none -/
theorem ux_ls (P : Nat → Prop) (n : Nat) : (∃ i, i < n ∧ P i ∧ ∀ j, j < i → ¬ P j) ∨ (∀ j, j < n → ¬ P j) := by
  induction n with
  | zero => exact Or.inr (fun j h => absurd h (by omega))
  | succ n ih =>
    rcases ih with ⟨i, hi, h1, h2⟩ | h
    · exact Or.inl ⟨i, by omega, h1, h2⟩
    · by_cases hp : P n
      · exact Or.inl ⟨n, by omega, hp, h⟩
      · refine Or.inr (fun j hj => ?_)
        by_cases e : j = n
        · rw [e]; exact hp
        · exact h j (by omega)
/-! B: counting the entries of a directory -/
def ux_ct (f : Nat → Int32) : Nat → Nat
  | 0 => 0
  | m + 1 => ux_ct f m + (if f m = 0 then 0 else 1)
theorem ux_ct_s (f : Nat → Int32) (m : Nat) : ux_ct f (m + 1) = ux_ct f m + (if f m = 0 then 0 else 1) := rfl
theorem ux_ct_congr {f g : Nat → Int32} : ∀ m, (∀ j, j < m → f j = g j) → ux_ct f m = ux_ct g m := by
  intro m
  induction m with
  | zero => intro _; rfl
  | succ m ih =>
    intro h
    rw [ux_ct_s, ux_ct_s, ih (fun j hj => h j (by omega)), h m (by omega)]
theorem ux_ct_le (f : Nat → Int32) : ∀ m, ux_ct f m ≤ m := by
  intro m
  induction m with
  | zero => exact Nat.le_refl 0
  | succ m ih => rw [ux_ct_s]; split <;> omega
theorem ux_ct_0 {f : Nat → Int32} : ∀ m, ux_ct f m = 0 → ∀ j, j < m → f j = 0 := by
  intro m
  induction m with
  | zero => intro _ j hj; omega
  | succ m ih =>
    intro h j hj
    rw [ux_ct_s] at h
    by_cases hm : f m = 0
    · by_cases e : j = m
      · rw [e]; exact hm
      · exact ih (by omega) j (by omega)
    · rw [if_neg hm] at h; omega
theorem ux_ct_z {f : Nat → Int32} : ∀ m, (∀ j, j < m → f j = 0) → ux_ct f m = 0 := by
  intro m
  induction m with
  | zero => intro _; rfl
  | succ m ih =>
    intro h
    rw [ux_ct_s, ih (fun j hj => h j (by omega)), if_pos (h m (by omega))]
theorem ux_ct_add {f : Nat → Int32} {i : Nat} {x : Int32} (h0 : f i = 0) (hx : x ≠ 0) : ∀ m, i < m → ux_ct (upd f i x) m = ux_ct f m + 1 := by
  intro m
  induction m with
  | zero => intro h; omega
  | succ m ih =>
    intro h
    rw [ux_ct_s, ux_ct_s]
    by_cases e : i = m
    · subst e
      rw [ux_us, if_neg hx, if_pos h0, ux_ct_congr (f := upd f i x) (g := f) i (fun j hj => ux_un (by omega))]
    · rw [ux_un (f := f) (k := i) (j := m) (by omega), ih (by omega)]
      omega
theorem ux_ct_sub {f : Nat → Int32} {i : Nat} (h0 : f i ≠ 0) : ∀ m, i < m → ux_ct (upd f i 0) m + 1 = ux_ct f m := by
  intro m
  induction m with
  | zero => intro h; omega
  | succ m ih =>
    intro h
    rw [ux_ct_s, ux_ct_s]
    by_cases e : i = m
    · subst e
      rw [ux_us, if_pos rfl, if_neg h0, ux_ct_congr (f := upd f i 0) (g := f) i (fun j hj => ux_un (by omega))]
    · have := ih (by omega)
      rw [ux_un (f := f) (k := i) (j := m) (by omega)]
      omega
def ux_cn (en : Nat → Int32) (d : Nat) : Nat := ux_ct (fun j => en (d * 15 + j)) 15
theorem ux_cn_ne {en : Nat → Int32} {j d : Nat} {x : Int32} (h : j / 15 ≠ d) : ux_cn (upd en j x) d = ux_cn en d :=
  ux_ct_congr 15 (fun i hi => ux_un (by omega))
theorem ux_cn_up {en : Nat → Int32} {d m : Nat} {x : Int32} (hm : m < 15) : (fun j => upd en (d * 15 + m) x (d * 15 + j)) = upd (fun j => en (d * 15 + j)) m x := by
  funext j
  by_cases e : j = m
  · rw [e, ux_us, ux_us]
  · rw [ux_un e, ux_un (by omega)]
theorem ux_cn_add {en : Nat → Int32} {d m : Nat} {x : Int32} (hm : m < 15) (h0 : en (d * 15 + m) = 0) (hx : x ≠ 0) : ux_cn (upd en (d * 15 + m) x) d = ux_cn en d + 1 := by
  unfold ux_cn
  rw [ux_cn_up hm]
  exact ux_ct_add (f := fun j => en (d * 15 + j)) h0 hx 15 hm
theorem ux_cn_sub {en : Nat → Int32} {d m : Nat} (hm : m < 15) (h0 : en (d * 15 + m) ≠ 0) : ux_cn (upd en (d * 15 + m) 0) d + 1 = ux_cn en d := by
  unfold ux_cn
  rw [ux_cn_up hm]
  exact ux_ct_sub (f := fun j => en (d * 15 + j)) h0 15 hm
/-! C: the invariants -/
def ux_K (kd : Nat → Int32) : Prop := kd 0 = 2 ∧ ∀ n, n < 10 → kd n = 0 ∨ kd n = 1 ∨ kd n = 2
def ux_E (kd en : Nat → Int32) : Prop := ∀ j, j < 150 → en j = 0 ∨ ∃ n, 0 < n ∧ n < 10 ∧ en j = nI n ∧ kd n ≠ 0 ∧ kd (j / 15) = 2
def ux_P (kd np en : Nat → Int32) : Prop := np 0 = 0 ∧ ∀ n, 0 < n → n < 10 → kd n = 2 → ∃ d, d < 10 ∧ np n = nI d ∧ kd d = 2 ∧ ∃ j, j < 15 ∧ en (d * 15 + j) = nI n
def ux_U (kd en : Nat → Int32) : Prop := ∀ i j n, i < 150 → j < 150 → 0 < n → n < 10 → en i = nI n → en j = nI n → kd n = 2 → i = j
def ux_S (kd ns en : Nat → Int32) : Prop := ∀ n, n < 10 → (kd n = 2 → ns n = nI (ux_cn en n) ∧ ux_cn en n ≤ 6) ∧ (kd n = 1 → ∃ m, m ≤ 20 ∧ ns n = nI m)
def ux_FS (kd ns np en : Nat → Int32) : Prop := ux_K kd ∧ ux_E kd en ∧ ux_P kd np en ∧ ux_U kd en ∧ ux_S kd ns en
def ux_V (x : Int32) : Prop := x = 0 ∨ (∃ o, o < 8 ∧ x = nI (1 + o)) ∨ (∃ k, k < 2 ∧ x = nI (4096 + k)) ∨ (∃ k, k < 2 ∧ x = nI (8192 + k))
def ux_D (ds : Nat → Int32) : Prop := ∀ j, j < 20 → ux_V (ds j)
def ux_O (kd ds fi ow po : Nat → Int32) : Prop := ∀ j o, j < 20 → o < 8 → ds j = nI (1 + o) → (∃ n, 0 < n ∧ n < 10 ∧ fi o = nI n ∧ kd n = 1) ∧ (ow o = 0 ∨ ow o = 1) ∧ ∃ q, q ≤ 20 ∧ po o = nI q
def ux_Z (st ds : Nat → Int32) : Prop := ∀ p i, p < 5 → i < 4 → (st p = 0 ∨ st p = 3) → ds (p * 4 + i) = 0
def ux_R (kd st pp qp pc pn : Nat → Int32) : Prop := ∀ p, p < 5 → (st p = 0 ∨ st p = 1 ∨ st p = 2 ∨ st p = 3) ∧ (st p ≠ 0 → pp p = qp p ∧ (pp p = -1 ∨ ∃ c, c < 5 ∧ c ≠ p ∧ pp p = nI c)) ∧ (st p = 1 ∨ st p = 2 → (∃ d, d < 10 ∧ pc p = nI d ∧ kd d = 2) ∧ ∃ m, m ≤ 20 ∧ pn p = nI m)
def ux_Q (st qu : Nat → Int32) (m : Nat) : Prop := m ≤ 5 ∧ (∀ i, i < m → ∃ p, p < 5 ∧ qu i = nI p ∧ st p = 1) ∧ (∀ i j, i < j → j < m → qu i ≠ qu j)
def ux_N (qu : Nat → Int32) (m p : Nat) : Prop := ∀ i, i < m → qu i ≠ nI p
def ux_I (pl : Nat → Int32) : Prop := ∀ k, k < 2 → ∃ m, m ≤ 4 ∧ pl k = nI m
def ux_en (en : Nat → Int32) (n : Nat) : Prop := ∃ j, j < 150 ∧ en j = nI n
def ux_op (ds fi : Nat → Int32) (n : Nat) : Prop := ∃ j o, j < 20 ∧ o < 8 ∧ ds j = nI (1 + o) ∧ fi o = nI n
def ux_L (kd en ds fi : Nat → Int32) : Prop := ∀ n, 0 < n → n < 10 → kd n = 1 → ux_en en n ∨ ux_op ds fi n
def ux_hd (ds : Nat → Int32) (w : Int32) : Prop := ∃ j, j < 20 ∧ ds j = w
/-! the pictures of the reference's arrays -/
def ux_EN (en : Nat → Int32) : Nat → Int32 := fun j => if j < 150 then (if en j = 0 then -1 else en j) else 0
def ux_cv (x : Int32) : Int32 := if x = 4096 then 101 else if x = 4097 then 102 else if x = 8192 then 201 else if x = 8193 then 202 else x
def ux_ED (ds : Nat → Int32) : Nat → Int32 := fun j => ux_cv (ds j)
def ux_LN (kd ns : Nat → Int32) : Nat → Int32 := fun n => if kd n = 2 then 0 else ns n
theorem ux_n20 : (2 : Int32) ≠ 0 := by decide
theorem ux_n21 : (2 : Int32) ≠ 1 := by decide
theorem ux_n10 : (1 : Int32) ≠ 0 := by decide
theorem ux_n12 : (1 : Int32) ≠ 2 := by decide
theorem ux_n02 : (0 : Int32) ≠ 2 := by decide
theorem ux_n01 : (0 : Int32) ≠ 1 := by decide
theorem ux_nz {n : Nat} (h0 : 0 < n) (h : n < 100000) : nI n ≠ 0 := nI_ne0 h0 (by omega)
theorem ux_dz {en kd : Nat → Int32} {d : Nat} (hE : ux_E kd en) (hd : d < 10) (h2 : kd d ≠ 2) : ∀ j, j < 15 → en (d * 15 + j) = 0 := by
  intro j hj
  rcases hE (d * 15 + j) (by omega) with h | ⟨n, _, _, _, _, h⟩
  · exact h
  · rw [show (d * 15 + j) / 15 = d by omega] at h
    exact absurd h h2
theorem ux_noE {en kd : Nat → Int32} {n : Nat} (hE : ux_E kd en) (h0 : 0 < n) (hn : n < 10) (hk : kd n = 0) : ∀ j, j < 150 → en j ≠ nI n := by
  intro j hj e
  rcases hE j hj with h | ⟨m, _, hm, e2, h, _⟩
  · rw [h] at e; exact ux_nz h0 (by omega) e.symm
  · rw [e2] at e
    rw [ux_inj e (by omega) (by omega)] at h
    exact h hk
end UX1
