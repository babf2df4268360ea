section
section UX0
/-! numbers against literals -/
theorem ux_lit (k : Nat) : (OfNat.ofNat k : Int32) = nI k := rfl
theorem ux_le_l {a k : Nat} (ha : a < 2 ^ 31) (hk : k < 2 ^ 31) : nI a ≤ (OfNat.ofNat k : Int32) ↔ a ≤ k := nI_leI ha hk
theorem ux_lt_l {a k : Nat} (ha : a < 2 ^ 31) (hk : k < 2 ^ 31) : nI a < (OfNat.ofNat k : Int32) ↔ a < k := nI_ltI ha hk
theorem ux_eq_l {a k : Nat} (ha : a < 2 ^ 31) (hk : k < 2 ^ 31) : nI a = (OfNat.ofNat k : Int32) ↔ a = k := nI_eq ha hk
theorem ux_l_le {a k : Nat} (ha : a < 2 ^ 31) (hk : k < 2 ^ 31) : (OfNat.ofNat k : Int32) ≤ nI a ↔ k ≤ a := nI_leI hk ha
theorem ux_l_lt {a k : Nat} (ha : a < 2 ^ 31) (hk : k < 2 ^ 31) : (OfNat.ofNat k : Int32) < nI a ↔ k < a := nI_ltI hk ha
theorem ux_l_eq {a k : Nat} (ha : a < 2 ^ 31) (hk : k < 2 ^ 31) : (OfNat.ofNat k : Int32) = nI a ↔ k = a := nI_eq hk ha
theorem ux_mulN (a b : Nat) : nI a * nI b = nI (a * b) := (Int32.ofNat_mul a b).symm
theorem ux_mul_l (a k : Nat) : nI a * (OfNat.ofNat k : Int32) = nI (a * k) := ux_mulN a k
theorem ux_l_mul (a k : Nat) : (OfNat.ofNat k : Int32) * nI a = nI (k * a) := ux_mulN k a
theorem ux_add_l (a k : Nat) : nI a + (OfNat.ofNat k : Int32) = nI (a + k) := nI_add a k
theorem ux_l_add (a k : Nat) : (OfNat.ofNat k : Int32) + nI a = nI (k + a) := nI_add k a
theorem ux_subN {a b : Nat} (h : b ≤ a) : nI a - nI b = nI (a - b) := by
  obtain ⟨c, rfl⟩ : ∃ c, a = c + b := ⟨a - b, by omega⟩
  rw [← nI_add, Int32.add_sub_cancel, Nat.add_sub_cancel]
theorem ux_sub_l {a k : Nat} (h : k ≤ a) : nI a - (OfNat.ofNat k : Int32) = nI (a - k) := ux_subN h
theorem ux_so (o : Nat) : nI (1 + o) - 1 = nI o := by rw [Nat.add_comm]; exact nI_pred o
theorem ux_add2 (e : Nat) : nI e + 2 = nI (e + 2) := nI_add e 2
theorem ux_s101 (k : Nat) : nI (101 + k) - 101 = nI k := by
  have h := ux_subN (a := 101 + k) (b := 101) (by omega)
  rw [show 101 + k - 101 = k by omega] at h
  exact h
theorem ux_s201 (k : Nat) : nI (201 + k) - 201 = nI k := by
  have h := ux_subN (a := 201 + k) (b := 201) (by omega)
  rw [show 201 + k - 201 = k by omega] at h
  exact h
theorem ux_s100 (k : Nat) : nI (201 + k) - 100 = nI (101 + k) := by
  have h := ux_subN (a := 201 + k) (b := 100) (by omega)
  rw [show 201 + k - 100 = 101 + k by omega] at h
  exact h
theorem ux_a100 (k : Nat) : nI (101 + k) + 100 = nI (201 + k) := by
  have h := nI_add (101 + k) 100
  rw [show 101 + k + 100 = 201 + k by omega] at h
  exact h
/-- a number from 0 to n - 1, or outside -/
theorem ux_rg (x : Int32) (n : Nat) (hn : n < 2 ^ 31) : (∃ a : Nat, a < n ∧ x = nI a) ∨ x < 0 ∨ (¬ x < 0 ∧ nI n ≤ x) := by
  by_cases h : x < 0
  · exact Or.inr (Or.inl h)
  · obtain ⟨j, hj, rfl⟩ := nI_of h
    by_cases h2 : j < n
    · exact Or.inl ⟨j, h2, rfl⟩
    · exact Or.inr (Or.inr ⟨h, nI_le (by omega) hj⟩)
theorem ux_ng {x : Int32} (h : x < 0) : ¬ 0 ≤ x := Int32.not_le.mpr h
theorem ux_nl {x : Int32} (h : ¬ x < 0) : 0 ≤ x := Int32.not_lt.mp h
theorem ux_hi {x : Int32} {n : Nat} (h : nI n ≤ x) : ¬ x < nI n := Int32.not_lt.mpr h
theorem ux_hi1 {x : Int32} {n : Nat} (hn : n + 1 < 2 ^ 31) (h : nI (n + 1) ≤ x) : ¬ x ≤ nI n := by
  intro h2
  exact nI_ge (a := n) (b := n + 1) (by omega) hn (Int32.le_trans h h2)
/-- a field of two bits -/
theorem ux_b2 (x : Int32) : ∃ j : Nat, j < 4 ∧ x &&& 3 = nI j := by
  refine ⟨x.toBitVec.toNat % 4, Nat.mod_lt _ (by decide), ?_⟩
  apply Int32.toBitVec_inj.mp
  apply BitVec.eq_of_toNat_eq
  rw [Int32.toBitVec_and, BitVec.toNat_and]
  show x.toBitVec.toNat &&& (2 ^ 2 - 1) = (BitVec.ofNat 32 _).toNat
  rw [Nat.and_two_pow_sub_one_eq_mod, BitVec.toNat_ofNat]
  have := x.toBitVec.isLt
  omega
theorem ux_b5 (x : Int32) : ∃ j : Nat, j < 32 ∧ x &&& 31 = nI j := by
  refine ⟨x.toBitVec.toNat % 32, Nat.mod_lt _ (by decide), ?_⟩
  apply Int32.toBitVec_inj.mp
  apply BitVec.eq_of_toNat_eq
  rw [Int32.toBitVec_and, BitVec.toNat_and]
  show x.toBitVec.toNat &&& (2 ^ 5 - 1) = (BitVec.ofNat 32 _).toNat
  rw [Nat.and_two_pow_sub_one_eq_mod, BitVec.toNat_ofNat]
  have := x.toBitVec.isLt
  omega
end UX0
end
section
section UX1
/-! A: stores and numbers -/
theorem ux_us {f : Nat → Int32} {k : Nat} {x : Int32} : upd f k x k = x := if_pos rfl
theorem ux_un {f : Nat → Int32} {k j : Nat} {x : Int32} (h : j ≠ k) : upd f k x j = f j := if_neg h
theorem ux_uu {f : Nat → Int32} {k : Nat} {x y : Int32} : upd (upd f k x) k y = upd f k y := by
  funext j
  by_cases h : j = k
  · rw [h, ux_us, ux_us]
  · rw [ux_un h, ux_un h, ux_un h]
theorem ux_uc {f : Nat → Int32} {k i : Nat} {x y : Int32} (h : k ≠ i) : upd (upd f k x) i y = upd (upd f i y) k x := by
  funext j
  by_cases h1 : j = k
  · subst h1
    rw [ux_un h, ux_us, ux_us]
  · by_cases h2 : j = i
    · subst h2
      rw [ux_us, ux_un h1, ux_us]
    · rw [ux_un h2, ux_un h1, ux_un h1, ux_un h2]
theorem ux_ue {f : Nat → Int32} {k : Nat} {x : Int32} (h : f k = x) : upd f k x = f := by
  funext j
  by_cases h1 : j = k
  · rw [h1, ux_us, h]
  · rw [ux_un h1]
theorem ux_inj {a b : Nat} (h : nI a = nI b) (ha : a < 100000) (hb : b < 100000) : a = b := (nI_eq (by omega) (by omega)).mp h
theorem ux_ne {a b : Nat} (h : a ≠ b) (ha : a < 100000) (hb : b < 100000) : nI a ≠ nI b := fun e => h (ux_inj e ha hb)
theorem ux_m1 (n : Nat) : nI (n + 1) + (-1) = nI n := by
  rw [← nI_1, Int32.add_assoc, show (1 : Int32) + (-1) = 0 from rfl, Int32.add_zero]
theorem ux_neg1 {a : Nat} (h : a < 2 ^ 31) : nI a ≠ -1 := by
  intro e
  have h1 := nI_pos (n := a) h
  rw [e] at h1
  exact h1 (by decide)
theorem ux_mul (a b : Nat) : nI a * nI b = nI (a * b) := (Int32.ofNat_mul a b).symm
theorem ux_sub {a b : Nat} (h : b ≤ a) : nI a - nI b = nI (a - b) := by
  obtain ⟨c, rfl⟩ : ∃ c, a = c + b := ⟨a - b, by omega⟩
  rw [← nI_add, Int32.add_sub_cancel, Nat.add_sub_cancel]
theorem ux_ix (x : Int32) {n : Nat} (hn : n < 2 ^ 31) : x < 0 ∨ nI n ≤ x ∨ ∃ j : Nat, j < n ∧ x = nI j := by
  by_cases h : x < 0
  · exact Or.inl h
  · obtain ⟨j, hj, rfl⟩ := nI_of h
    by_cases h2 : j < n
    · exact Or.inr (Or.inr ⟨j, h2, rfl⟩)
    · exact Or.inr (Or.inl (nI_le (by omega) hj))
/-- the least index below n with P, or none -/
theorem ux_ls (P : Nat → Prop) (n : Nat) : (∃ i, i < n ∧ P i ∧ ∀ j, j < i → ¬ P j) ∨ (∀ j, j < n → ¬ P j) := by
  induction n with
  | zero => exact Or.inr (fun j h => absurd h (by omega))
  | succ n ih =>
    rcases ih with ⟨i, hi, h1, h2⟩ | h
    · exact Or.inl ⟨i, by omega, h1, h2⟩
    · by_cases hp : P n
      · exact Or.inl ⟨n, by omega, hp, h⟩
      · refine Or.inr (fun j hj => ?_)
        by_cases e : j = n
        · rw [e]; exact hp
        · exact h j (by omega)
/-! B: counting the entries of a directory -/
def ux_ct (f : Nat → Int32) : Nat → Nat
  | 0 => 0
  | m + 1 => ux_ct f m + (if f m = 0 then 0 else 1)
theorem ux_ct_s (f : Nat → Int32) (m : Nat) : ux_ct f (m + 1) = ux_ct f m + (if f m = 0 then 0 else 1) := rfl
theorem ux_ct_congr {f g : Nat → Int32} : ∀ m, (∀ j, j < m → f j = g j) → ux_ct f m = ux_ct g m := by
  intro m
  induction m with
  | zero => intro _; rfl
  | succ m ih =>
    intro h
    rw [ux_ct_s, ux_ct_s, ih (fun j hj => h j (by omega)), h m (by omega)]
theorem ux_ct_le (f : Nat → Int32) : ∀ m, ux_ct f m ≤ m := by
  intro m
  induction m with
  | zero => exact Nat.le_refl 0
  | succ m ih => rw [ux_ct_s]; split <;> omega
theorem ux_ct_0 {f : Nat → Int32} : ∀ m, ux_ct f m = 0 → ∀ j, j < m → f j = 0 := by
  intro m
  induction m with
  | zero => intro _ j hj; omega
  | succ m ih =>
    intro h j hj
    rw [ux_ct_s] at h
    by_cases hm : f m = 0
    · by_cases e : j = m
      · rw [e]; exact hm
      · exact ih (by omega) j (by omega)
    · rw [if_neg hm] at h; omega
theorem ux_ct_z {f : Nat → Int32} : ∀ m, (∀ j, j < m → f j = 0) → ux_ct f m = 0 := by
  intro m
  induction m with
  | zero => intro _; rfl
  | succ m ih =>
    intro h
    rw [ux_ct_s, ih (fun j hj => h j (by omega)), if_pos (h m (by omega))]
theorem ux_ct_add {f : Nat → Int32} {i : Nat} {x : Int32} (h0 : f i = 0) (hx : x ≠ 0) : ∀ m, i < m → ux_ct (upd f i x) m = ux_ct f m + 1 := by
  intro m
  induction m with
  | zero => intro h; omega
  | succ m ih =>
    intro h
    rw [ux_ct_s, ux_ct_s]
    by_cases e : i = m
    · subst e
      rw [ux_us, if_neg hx, if_pos h0, ux_ct_congr (f := upd f i x) (g := f) i (fun j hj => ux_un (by omega))]
    · rw [ux_un (f := f) (k := i) (j := m) (by omega), ih (by omega)]
      omega
theorem ux_ct_sub {f : Nat → Int32} {i : Nat} (h0 : f i ≠ 0) : ∀ m, i < m → ux_ct (upd f i 0) m + 1 = ux_ct f m := by
  intro m
  induction m with
  | zero => intro h; omega
  | succ m ih =>
    intro h
    rw [ux_ct_s, ux_ct_s]
    by_cases e : i = m
    · subst e
      rw [ux_us, if_pos rfl, if_neg h0, ux_ct_congr (f := upd f i 0) (g := f) i (fun j hj => ux_un (by omega))]
    · have := ih (by omega)
      rw [ux_un (f := f) (k := i) (j := m) (by omega)]
      omega
def ux_cn (en : Nat → Int32) (d : Nat) : Nat := ux_ct (fun j => en (d * 15 + j)) 15
theorem ux_cn_ne {en : Nat → Int32} {j d : Nat} {x : Int32} (h : j / 15 ≠ d) : ux_cn (upd en j x) d = ux_cn en d :=
  ux_ct_congr 15 (fun i hi => ux_un (by omega))
theorem ux_cn_up {en : Nat → Int32} {d m : Nat} {x : Int32} (hm : m < 15) : (fun j => upd en (d * 15 + m) x (d * 15 + j)) = upd (fun j => en (d * 15 + j)) m x := by
  funext j
  by_cases e : j = m
  · rw [e, ux_us, ux_us]
  · rw [ux_un e, ux_un (by omega)]
theorem ux_cn_add {en : Nat → Int32} {d m : Nat} {x : Int32} (hm : m < 15) (h0 : en (d * 15 + m) = 0) (hx : x ≠ 0) : ux_cn (upd en (d * 15 + m) x) d = ux_cn en d + 1 := by
  unfold ux_cn
  rw [ux_cn_up hm]
  exact ux_ct_add (f := fun j => en (d * 15 + j)) h0 hx 15 hm
theorem ux_cn_sub {en : Nat → Int32} {d m : Nat} (hm : m < 15) (h0 : en (d * 15 + m) ≠ 0) : ux_cn (upd en (d * 15 + m) 0) d + 1 = ux_cn en d := by
  unfold ux_cn
  rw [ux_cn_up hm]
  exact ux_ct_sub (f := fun j => en (d * 15 + j)) h0 15 hm
/-! C: the invariants -/
def ux_K (kd : Nat → Int32) : Prop := kd 0 = 2 ∧ ∀ n, n < 10 → kd n = 0 ∨ kd n = 1 ∨ kd n = 2
def ux_E (kd en : Nat → Int32) : Prop := ∀ j, j < 150 → en j = 0 ∨ ∃ n, 0 < n ∧ n < 10 ∧ en j = nI n ∧ kd n ≠ 0 ∧ kd (j / 15) = 2
def ux_P (kd np en : Nat → Int32) : Prop := np 0 = 0 ∧ ∀ n, 0 < n → n < 10 → kd n = 2 → ∃ d, d < 10 ∧ np n = nI d ∧ kd d = 2 ∧ ∃ j, j < 15 ∧ en (d * 15 + j) = nI n
def ux_U (kd en : Nat → Int32) : Prop := ∀ i j n, i < 150 → j < 150 → 0 < n → n < 10 → en i = nI n → en j = nI n → kd n = 2 → i = j
def ux_S (kd ns en : Nat → Int32) : Prop := ∀ n, n < 10 → (kd n = 2 → ns n = nI (ux_cn en n) ∧ ux_cn en n ≤ 6) ∧ (kd n = 1 → ∃ m, m ≤ 20 ∧ ns n = nI m)
def ux_FS (kd ns np en : Nat → Int32) : Prop := ux_K kd ∧ ux_E kd en ∧ ux_P kd np en ∧ ux_U kd en ∧ ux_S kd ns en
def ux_V (x : Int32) : Prop := x = 0 ∨ (∃ o, o < 8 ∧ x = nI (1 + o)) ∨ (∃ k, k < 2 ∧ x = nI (4096 + k)) ∨ (∃ k, k < 2 ∧ x = nI (8192 + k))
def ux_D (ds : Nat → Int32) : Prop := ∀ j, j < 20 → ux_V (ds j)
def ux_O (kd ds fi ow po : Nat → Int32) : Prop := ∀ j o, j < 20 → o < 8 → ds j = nI (1 + o) → (∃ n, 0 < n ∧ n < 10 ∧ fi o = nI n ∧ kd n = 1) ∧ (ow o = 0 ∨ ow o = 1) ∧ ∃ q, q ≤ 20 ∧ po o = nI q
def ux_Z (st ds : Nat → Int32) : Prop := ∀ p i, p < 5 → i < 4 → (st p = 0 ∨ st p = 3) → ds (p * 4 + i) = 0
def ux_R (kd st pp qp pc pn : Nat → Int32) : Prop := ∀ p, p < 5 → (st p = 0 ∨ st p = 1 ∨ st p = 2 ∨ st p = 3) ∧ (st p ≠ 0 → pp p = qp p ∧ (pp p = -1 ∨ ∃ c, c < 5 ∧ c ≠ p ∧ pp p = nI c)) ∧ (st p = 1 ∨ st p = 2 → (∃ d, d < 10 ∧ pc p = nI d ∧ kd d = 2) ∧ ∃ m, m ≤ 20 ∧ pn p = nI m)
def ux_Q (st qu : Nat → Int32) (m : Nat) : Prop := m ≤ 5 ∧ (∀ i, i < m → ∃ p, p < 5 ∧ qu i = nI p ∧ st p = 1) ∧ (∀ i j, i < j → j < m → qu i ≠ qu j)
def ux_N (qu : Nat → Int32) (m p : Nat) : Prop := ∀ i, i < m → qu i ≠ nI p
def ux_I (pl : Nat → Int32) : Prop := ∀ k, k < 2 → ∃ m, m ≤ 4 ∧ pl k = nI m
def ux_en (en : Nat → Int32) (n : Nat) : Prop := ∃ j, j < 150 ∧ en j = nI n
def ux_op (ds fi : Nat → Int32) (n : Nat) : Prop := ∃ j o, j < 20 ∧ o < 8 ∧ ds j = nI (1 + o) ∧ fi o = nI n
def ux_L (kd en ds fi : Nat → Int32) : Prop := ∀ n, 0 < n → n < 10 → kd n = 1 → ux_en en n ∨ ux_op ds fi n
def ux_hd (ds : Nat → Int32) (w : Int32) : Prop := ∃ j, j < 20 ∧ ds j = w
/-! the pictures of the reference's arrays -/
def ux_EN (en : Nat → Int32) : Nat → Int32 := fun j => if j < 150 then (if en j = 0 then -1 else en j) else 0
def ux_cv (x : Int32) : Int32 := if x = 4096 then 101 else if x = 4097 then 102 else if x = 8192 then 201 else if x = 8193 then 202 else x
def ux_ED (ds : Nat → Int32) : Nat → Int32 := fun j => ux_cv (ds j)
def ux_LN (kd ns : Nat → Int32) : Nat → Int32 := fun n => if kd n = 2 then 0 else ns n
theorem ux_n20 : (2 : Int32) ≠ 0 := by decide
theorem ux_n21 : (2 : Int32) ≠ 1 := by decide
theorem ux_n10 : (1 : Int32) ≠ 0 := by decide
theorem ux_n12 : (1 : Int32) ≠ 2 := by decide
theorem ux_n02 : (0 : Int32) ≠ 2 := by decide
theorem ux_n01 : (0 : Int32) ≠ 1 := by decide
theorem ux_nz {n : Nat} (h0 : 0 < n) (h : n < 100000) : nI n ≠ 0 := nI_ne0 h0 (by omega)
theorem ux_dz {en kd : Nat → Int32} {d : Nat} (hE : ux_E kd en) (hd : d < 10) (h2 : kd d ≠ 2) : ∀ j, j < 15 → en (d * 15 + j) = 0 := by
  intro j hj
  rcases hE (d * 15 + j) (by omega) with h | ⟨n, _, _, _, _, h⟩
  · exact h
  · rw [show (d * 15 + j) / 15 = d by omega] at h
    exact absurd h h2
theorem ux_noE {en kd : Nat → Int32} {n : Nat} (hE : ux_E kd en) (h0 : 0 < n) (hn : n < 10) (hk : kd n = 0) : ∀ j, j < 150 → en j ≠ nI n := by
  intro j hj e
  rcases hE j hj with h | ⟨m, _, hm, e2, h, _⟩
  · rw [h] at e; exact ux_nz h0 (by omega) e.symm
  · rw [e2] at e
    rw [ux_inj e (by omega) (by omega)] at h
    exact h hk
end UX1
end
section
section UX2
variable {kd ns np en ds fi ow po st pp qp pc pn : Nat → Int32} {n d m : Nat} {t : Int32}
theorem ux_nx {f : Nat → Int32} {i j : Nat} {x : Int32} (h : f i = x) (hk : f j ≠ x) : i ≠ j := fun e => hk (e ▸ h)
theorem ux_nd (hd2 : kd d = 2) (hk : kd n ≠ 2) : d ≠ n := fun e => hk (e ▸ hd2)
/-! a new node n, of the sort t, entered into d as m -/
theorem ux_E_new (hE : ux_E kd en) (h0 : 0 < n) (hn : n < 10) (hk : kd n = 0) (hd : d < 10) (hd2 : kd d = 2) (hm : m < 15) (ht : t = 1 ∨ t = 2) : ux_E (upd kd n t) (upd en (d * 15 + m) (nI n)) := by
  have hdn : d ≠ n := ux_nd hd2 (by rw [hk]; exact ux_n02)
  intro j hj
  by_cases e : j = d * 15 + m
  · refine Or.inr ⟨n, h0, hn, by rw [e, ux_us], ?_, ?_⟩
    · rw [ux_us]; rcases ht with h | h
      · rw [h]; exact ux_n10
      · rw [h]; exact ux_n20
    · rw [e, show (d * 15 + m) / 15 = d by omega, ux_un hdn]; exact hd2
  · rw [ux_un e]
    rcases hE j hj with h | ⟨a, a0, a1, a2, a3, a4⟩
    · exact Or.inl h
    · refine Or.inr ⟨a, a0, a1, a2, ?_, ?_⟩
      · rw [ux_un (Ne.symm (ux_nx hk a3))]; exact a3
      · rw [ux_un (ux_nd a4 (by rw [hk]; exact ux_n02))]; exact a4
theorem ux_U_new (hE : ux_E kd en) (hU : ux_U kd en) (h0 : 0 < n) (hn : n < 10) (hk : kd n = 0) : ux_U (upd kd n t) (upd en (d * 15 + m) (nI n)) := by
  intro i j a hi hj a0 a1 ei ej ek
  by_cases e1 : i = d * 15 + m
  · by_cases e2 : j = d * 15 + m
    · rw [e1, e2]
    · rw [e1, ux_us] at ei
      rw [ux_un e2, ← ei] at ej
      exact absurd ej (ux_noE hE h0 hn hk j hj)
  · by_cases e2 : j = d * 15 + m
    · rw [e2, ux_us] at ej
      rw [ux_un e1, ← ej] at ei
      exact absurd ei (ux_noE hE h0 hn hk i hi)
    · rw [ux_un e1] at ei
      rw [ux_un e2] at ej
      by_cases e3 : a = n
      · rw [e3] at ei; exact absurd ei (ux_noE hE h0 hn hk i hi)
      · rw [ux_un e3] at ek
        exact hU i j a hi hj a0 a1 ei ej ek
theorem ux_P_new (hP : ux_P kd np en) (h0 : 0 < n) (hk : kd n = 0) (hd : d < 10) (hd2 : kd d = 2) (hm : m < 15) (he : en (d * 15 + m) = 0) : ux_P (upd kd n t) (upd np n (nI d)) (upd en (d * 15 + m) (nI n)) := by
  have hdn : d ≠ n := ux_nd hd2 (by rw [hk]; exact ux_n02)
  refine ⟨by rw [ux_un (by omega)]; exact hP.1, ?_⟩
  intro a a0 a1 ak
  by_cases e : a = n
  · exact ⟨d, hd, by rw [e, ux_us], by rw [ux_un hdn]; exact hd2, m, hm, by rw [e, ux_us]⟩
  · rw [ux_un e] at ak
    obtain ⟨c, c1, c2, c3, j, j1, j2⟩ := hP.2 a a0 a1 ak
    refine ⟨c, c1, by rw [ux_un e]; exact c2, by rw [ux_un (ux_nd c3 (by rw [hk]; exact ux_n02))]; exact c3, j, j1, ?_⟩
    rw [ux_un ?_]
    · exact j2
    · intro e2
      rw [e2, he] at j2
      exact ux_nz a0 (by omega) j2.symm
theorem ux_S_new (hE : ux_E kd en) (hS : ux_S kd ns en) (h0 : 0 < n) (hn : n < 10) (hk : kd n = 0) (hd : d < 10) (hd2 : kd d = 2) (hm : m < 15) (he : en (d * 15 + m) = 0) (hc : ux_cn en d < 6) : ux_S (upd kd n t) (upd (upd ns n 0) d (upd ns n 0 d + 1)) (upd en (d * 15 + m) (nI n)) := by
  have hdn : d ≠ n := ux_nd hd2 (by rw [hk]; exact ux_n02)
  have hA : ux_cn (upd en (d * 15 + m) (nI n)) d = ux_cn en d + 1 := ux_cn_add hm he (ux_nz h0 (by omega))
  have hB : ∀ a, a ≠ d → ux_cn (upd en (d * 15 + m) (nI n)) a = ux_cn en a := fun a ha => ux_cn_ne (by omega)
  intro a ha
  by_cases e : a = n
  · rw [e]
    rw [ux_un (f := upd ns n 0) (Ne.symm hdn), ux_us (f := ns), hB n (Ne.symm hdn)]
    have hz : ux_cn en n = 0 := ux_ct_z 15 (ux_dz hE hn (by rw [hk]; exact ux_n02))
    exact ⟨fun _ => ⟨by rw [hz]; rfl, by omega⟩, fun _ => ⟨0, by omega, rfl⟩⟩
  · rw [ux_un (f := kd) e]
    by_cases e2 : a = d
    · subst e2
      rw [ux_us, ux_un e, hA]
      refine ⟨fun _ => ⟨?_, by omega⟩, fun h => absurd (hd2.symm.trans h) ux_n21⟩
      rw [((hS a ha).1 hd2).1, nI_1]
    · rw [ux_un e2, ux_un e, hB a e2]
      exact hS a ha
theorem ux_K_new (hK : ux_K kd) (h0 : 0 < n) (ht : t = 0 ∨ t = 1 ∨ t = 2) : ux_K (upd kd n t) := by
  refine ⟨by rw [ux_un (by omega)]; exact hK.1, fun a ha => ?_⟩
  by_cases e : a = n
  · rw [e, ux_us]; exact ht
  · rw [ux_un e]; exact hK.2 a ha
theorem ux_FS_new (hF : ux_FS kd ns np en) (h0 : 0 < n) (hn : n < 10) (hk : kd n = 0) (hd : d < 10) (hd2 : kd d = 2) (hm : m < 15) (he : en (d * 15 + m) = 0) (hc : ux_cn en d < 6) (ht : t = 1 ∨ t = 2) : ux_FS (upd kd n t) (upd (upd ns n 0) d (upd ns n 0 d + 1)) (upd np n (nI d)) (upd en (d * 15 + m) (nI n)) := by
  obtain ⟨hK, hE, hP, hU, hS⟩ := hF
  exact ⟨ux_K_new hK h0 (Or.inr ht), ux_E_new hE h0 hn hk hd hd2 hm ht, ux_P_new hP h0 hk hd hd2 hm he, ux_U_new hE hU h0 hn hk, ux_S_new hE hS h0 hn hk hd hd2 hm he hc⟩
theorem ux_O_kd {kd' : Nat → Int32} (hO : ux_O kd ds fi ow po) (h : ∀ j o a, j < 20 → o < 8 → ds j = nI (1 + o) → fi o = nI a → 0 < a → a < 10 → kd a = 1 → kd' a = 1) : ux_O kd' ds fi ow po := by
  intro j o hj ho e
  obtain ⟨⟨a, a0, a1, a2, a3⟩, h2, h3⟩ := hO j o hj ho e
  exact ⟨⟨a, a0, a1, a2, h j o a hj ho e a2 a0 a1 a3⟩, h2, h3⟩
theorem ux_O_new (hO : ux_O kd ds fi ow po) (hk : kd n ≠ 1) : ux_O (upd kd n t) ds fi ow po :=
  ux_O_kd hO (fun _ _ a _ _ _ _ _ _ h => by rw [ux_un (ux_nx h hk)]; exact h)
theorem ux_R_kd {kd' : Nat → Int32} (hR : ux_R kd st pp qp pc pn) (h : ∀ p a, p < 5 → (st p = 1 ∨ st p = 2) → pc p = nI a → a < 10 → kd a = 2 → kd' a = 2) : ux_R kd' st pp qp pc pn := by
  intro p hp
  obtain ⟨h1, h2, h3⟩ := hR p hp
  refine ⟨h1, h2, fun hs => ?_⟩
  obtain ⟨⟨a, a1, a2, a3⟩, h5⟩ := h3 hs
  exact ⟨⟨a, a1, a2, h p a hp hs a2 a1 a3⟩, h5⟩
theorem ux_R_new (hR : ux_R kd st pp qp pc pn) (hk : kd n ≠ 2) : ux_R (upd kd n t) st pp qp pc pn :=
  ux_R_kd hR (fun _ a _ _ _ _ h => by rw [ux_un (ux_nx h hk)]; exact h)
theorem ux_L_en (hL : ux_L kd en ds fi) (hd : d < 10) (hm : m < 15) (he : en (d * 15 + m) = 0) : ux_L kd (upd en (d * 15 + m) (nI n)) ds fi := by
  intro a a0 ha ak
  rcases hL a a0 ha ak with ⟨j, j1, j2⟩ | h
  · by_cases ej : j = d * 15 + m
    · rw [ej, he] at j2
      exact absurd j2.symm (ux_nz a0 (by omega))
    · exact Or.inl ⟨j, j1, by rw [ux_un ej]; exact j2⟩
  · exact Or.inr h
theorem ux_L_new (hL : ux_L kd en ds fi) (hd : d < 10) (hm : m < 15) (he : en (d * 15 + m) = 0) : ux_L (upd kd n t) (upd en (d * 15 + m) (nI n)) ds fi := by
  intro a a0 ha ak
  by_cases e : a = n
  · exact Or.inl ⟨d * 15 + m, by omega, by rw [e, ux_us]⟩
  · rw [ux_un e] at ak
    exact ux_L_en hL hd hm he a a0 ha ak
/-! the file n entered into d as m, too -/
theorem ux_FS_link (hF : ux_FS kd ns np en) (h0 : 0 < n) (hn : n < 10) (hk : kd n = 1) (hd : d < 10) (hd2 : kd d = 2) (hm : m < 15) (he : en (d * 15 + m) = 0) (hc : ux_cn en d < 6) : ux_FS kd (upd ns d (ns d + 1)) np (upd en (d * 15 + m) (nI n)) := by
  obtain ⟨hK, hE, hP, hU, hS⟩ := hF
  have hA : ux_cn (upd en (d * 15 + m) (nI n)) d = ux_cn en d + 1 := ux_cn_add hm he (ux_nz h0 (by omega))
  have hB : ∀ a, a ≠ d → ux_cn (upd en (d * 15 + m) (nI n)) a = ux_cn en a := fun a ha => ux_cn_ne (by omega)
  refine ⟨hK, ?_, ⟨hP.1, ?_⟩, ?_, ?_⟩
  · intro j hj
    by_cases e : j = d * 15 + m
    · exact Or.inr ⟨n, h0, hn, by rw [e, ux_us], by rw [hk]; exact ux_n10, by rw [e, show (d * 15 + m) / 15 = d by omega]; exact hd2⟩
    · rw [ux_un e]; exact hE j hj
  · intro a a0 a1 ak
    obtain ⟨c, c1, c2, c3, j, j1, j2⟩ := hP.2 a a0 a1 ak
    refine ⟨c, c1, c2, c3, j, j1, ?_⟩
    rw [ux_un ?_]
    · exact j2
    · intro e2
      rw [e2, he] at j2
      exact ux_nz a0 (by omega) j2.symm
  · have hx : ∀ i a, 0 < a → a < 10 → upd en (d * 15 + m) (nI n) i = nI a → kd a = 2 → en i = nI a := by
      intro i a a0 a1 e ak
      by_cases e1 : i = d * 15 + m
      · rw [e1, ux_us] at e
        rw [← ux_inj e (by omega) (by omega), hk] at ak
        exact absurd ak ux_n12
      · rw [ux_un e1] at e; exact e
    intro i j a hi hj a0 a1 ei ej ek
    exact hU i j a hi hj a0 a1 (hx i a a0 a1 ei ek) (hx j a a0 a1 ej ek) ek
  · intro a ha
    by_cases e2 : a = d
    · subst e2
      rw [ux_us, hA]
      refine ⟨fun _ => ⟨?_, by omega⟩, fun h => absurd (hd2.symm.trans h) ux_n21⟩
      rw [((hS a ha).1 hd2).1, nI_1]
    · rw [ux_un e2, hB a e2]
      exact hS a ha
/-! the entry m of d, which names n, goes -/
theorem ux_ent (hE : ux_E kd en) (hd : d < 10) (hm : m < 15) (he : en (d * 15 + m) = nI n) (h0 : 0 < n) (hn : n < 10) : kd d = 2 ∧ kd n ≠ 0 := by
  rcases hE (d * 15 + m) (by omega) with h | ⟨a, a0, a1, a2, a3, a4⟩
  · rw [he] at h; exact absurd h (ux_nz h0 (by omega))
  · rw [show (d * 15 + m) / 15 = d by omega] at a4
    rw [he] at a2
    rw [ux_inj a2 (by omega) (by omega)]
    exact ⟨a4, a3⟩
theorem ux_S_rm {z : Int32} (hS : ux_S kd ns en) (hd2 : kd d = 2) (hm : m < 15) (he : en (d * 15 + m) ≠ 0) (hz : nI (ux_cn en d) = z + 1) : ux_S kd (upd ns d z) (upd en (d * 15 + m) 0) := by
  have hA := ux_cn_sub (en := en) (d := d) hm he
  have hB : ∀ a, a ≠ d → ux_cn (upd en (d * 15 + m) 0) a = ux_cn en a := fun a ha => ux_cn_ne (by omega)
  intro a ha
  by_cases e2 : a = d
  · subst e2
    rw [ux_us]
    refine ⟨fun _ => ⟨?_, ?_⟩, fun h => absurd (hd2.symm.trans h) ux_n21⟩
    · rw [← hA, ← nI_1] at hz
      exact ((Int32.add_left_inj 1).mp hz).symm
    · have := ((hS a ha).1 hd2).2
      omega
  · rw [ux_un e2, hB a e2]
    exact hS a ha
theorem ux_FS_rm {z : Int32} (hF : ux_FS kd ns np en) (h0 : 0 < n) (hn : n < 10) (hk : kd n ≠ 2) (hd : d < 10) (hm : m < 15) (he : en (d * 15 + m) = nI n) (hz : nI (ux_cn en d) = z + 1) : ux_FS kd (upd ns d z) np (upd en (d * 15 + m) 0) := by
  obtain ⟨hK, hE, hP, hU, hS⟩ := hF
  have hd2 := (ux_ent hE hd hm he h0 hn).1
  refine ⟨hK, ?_, ⟨hP.1, ?_⟩, ?_, ux_S_rm hS hd2 hm (by rw [he]; exact ux_nz h0 (by omega)) hz⟩
  · intro j hj
    by_cases e : j = d * 15 + m
    · rw [e, ux_us]; exact Or.inl rfl
    · rw [ux_un e]; exact hE j hj
  · intro a a0 a1 ak
    obtain ⟨c, c1, c2, c3, j, j1, j2⟩ := hP.2 a a0 a1 ak
    refine ⟨c, c1, c2, c3, j, j1, ?_⟩
    rw [ux_un ?_]
    · exact j2
    · intro e2
      rw [e2, he] at j2
      exact hk (ux_inj j2 (by omega) (by omega) ▸ ak)
  · have hx : ∀ i a, 0 < a → a < 10 → upd en (d * 15 + m) 0 i = nI a → en i = nI a := by
      intro i a a0 a1 e
      by_cases e1 : i = d * 15 + m
      · rw [e1, ux_us] at e
        exact absurd e.symm (ux_nz a0 (by omega))
      · rw [ux_un e1] at e; exact e
    intro i j a hi hj a0 a1 ei ej ek
    exact hU i j a hi hj a0 a1 (hx i a a0 a1 ei) (hx j a a0 a1 ej) ek
theorem ux_FS_rmd {z : Int32} (hF : ux_FS kd ns np en) (h0 : 0 < n) (hn : n < 10) (hk : kd n = 2) (hd : d < 10) (hm : m < 15) (he : en (d * 15 + m) = nI n) (hz : nI (ux_cn en d) = z + 1) (hc : ux_cn en n = 0) : ux_FS (upd kd n 0) (upd ns d z) np (upd en (d * 15 + m) 0) := by
  obtain ⟨hK, hE, hP, hU, hS⟩ := hF
  have hd2 := (ux_ent hE hd hm he h0 hn).1
  have hall : ∀ j, j < 15 → en (n * 15 + j) = 0 := ux_ct_0 15 hc
  have hen : ∀ j, en j ≠ 0 → j / 15 ≠ n := by
    intro j hj e
    have := hall (j % 15) (by omega)
    rw [show n * 15 + j % 15 = j by omega] at this
    exact hj this
  have hdn : d ≠ n := by
    have := hen (d * 15 + m) (by rw [he]; exact ux_nz h0 (by omega))
    omega
  refine ⟨ux_K_new hK h0 (Or.inl rfl), ?_, ⟨hP.1, ?_⟩, ?_, ?_⟩
  · intro j hj
    by_cases e : j = d * 15 + m
    · rw [e, ux_us]; exact Or.inl rfl
    · rw [ux_un e]
      rcases hE j hj with h | ⟨a, a0, a1, a2, a3, a4⟩
      · exact Or.inl h
      · refine Or.inr ⟨a, a0, a1, a2, ?_, ?_⟩
        · rw [ux_un ?_]
          · exact a3
          · intro ea
            rw [ea] at a2
            exact e (hU j (d * 15 + m) n hj (by omega) h0 hn a2 he hk)
        · rw [ux_un (hen j (by rw [a2]; exact ux_nz a0 (by omega)))]; exact a4
  · intro a a0 a1 ak
    have ean : a ≠ n := by
      intro e; rw [e, ux_us] at ak; exact ux_n02 ak
    rw [ux_un ean] at ak
    obtain ⟨c, c1, c2, c3, j, j1, j2⟩ := hP.2 a a0 a1 ak
    refine ⟨c, c1, c2, ?_, j, j1, ?_⟩
    · have := hen (c * 15 + j) (by rw [j2]; exact ux_nz a0 (by omega))
      rw [ux_un (by omega)]; exact c3
    · rw [ux_un ?_]
      · exact j2
      · intro e2
        rw [e2, he] at j2
        exact ean (ux_inj j2 (by omega) (by omega)).symm
  · have hx : ∀ i a, 0 < a → a < 10 → upd en (d * 15 + m) 0 i = nI a → en i = nI a := by
      intro i a a0 a1 e
      by_cases e1 : i = d * 15 + m
      · rw [e1, ux_us] at e
        exact absurd e.symm (ux_nz a0 (by omega))
      · rw [ux_un e1] at e; exact e
    intro i j a hi hj a0 a1 ei ej ek
    have ean : a ≠ n := by
      intro e; rw [e, ux_us] at ek; exact ux_n02 ek
    rw [ux_un ean] at ek
    exact hU i j a hi hj a0 a1 (hx i a a0 a1 ei) (hx j a a0 a1 ej) ek
  · have h1 := ux_S_rm hS hd2 hm (by rw [he]; exact ux_nz h0 (by omega)) hz
    intro a ha
    by_cases e : a = n
    · rw [e, ux_us]
      exact ⟨fun h => absurd h ux_n02, fun h => absurd h ux_n01⟩
    · rw [ux_un e]; exact h1 a ha
/-! a file's length -/
theorem ux_FS_ns {q : Nat} (hF : ux_FS kd ns np en) (hk : kd n = 1) (hq : q ≤ 20) : ux_FS kd (upd ns n (nI q)) np en := by
  obtain ⟨hK, hE, hP, hU, hS⟩ := hF
  refine ⟨hK, hE, hP, hU, fun a ha => ?_⟩
  by_cases e : a = n
  · rw [e, ux_us]
    exact ⟨fun h => absurd (hk.symm.trans h) ux_n12, fun _ => ⟨q, hq, rfl⟩⟩
  · rw [ux_un e]; exact hS a ha
/-! lost files become free -/
def ux_lo (kd en ds fi : Nat → Int32) (n : Nat) : Prop := n < 10 ∧ kd n = 1 ∧ ¬ ux_en en n ∧ ¬ ux_op ds fi n
noncomputable def ux_ck (kd en ds fi : Nat → Int32) : Nat → Int32 := fun n => @ite Int32 (ux_lo kd en ds fi n) (Classical.propDecidable _) 0 (kd n)
theorem ux_ck_t (h : ux_lo kd en ds fi n) : ux_ck kd en ds fi n = 0 := if_pos h
theorem ux_ck_f (h : ¬ ux_lo kd en ds fi n) : ux_ck kd en ds fi n = kd n := if_neg h
theorem ux_ck_n1 (h : kd n ≠ 1) : ux_ck kd en ds fi n = kd n := ux_ck_f (fun z => h z.2.1)
theorem ux_ck_en (h : ux_en en n) : ux_ck kd en ds fi n = kd n := ux_ck_f (fun z => z.2.2.1 h)
theorem ux_ck_op (h : ux_op ds fi n) : ux_ck kd en ds fi n = kd n := ux_ck_f (fun z => z.2.2.2 h)
theorem ux_ck_of {x : Int32} (h : ux_ck kd en ds fi n = x) (hx : x ≠ 0) : kd n = x ∧ ¬ ux_lo kd en ds fi n := by
  by_cases z : ux_lo kd en ds fi n
  · rw [ux_ck_t z] at h; exact absurd h.symm hx
  · rw [ux_ck_f z] at h; exact ⟨h, z⟩
theorem ux_ck_2 (h : kd n = 2) : ux_ck kd en ds fi n = 2 := by rw [ux_ck_n1 (by rw [h]; exact ux_n21)]; exact h
theorem ux_ck_id (hL : ux_L kd en ds fi) (h0 : kd 0 = 2) : ux_ck kd en ds fi = kd := by
  funext a
  refine ux_ck_f (fun z => ?_)
  obtain ⟨z1, z2, z3, z4⟩ := z
  by_cases e : a = 0
  · rw [e, h0] at z2; exact ux_n21 z2
  · rcases hL a (by omega) z1 z2 with h | h
    · exact z3 h
    · exact z4 h
theorem ux_FS_ck (hF : ux_FS kd ns np en) : ux_FS (ux_ck kd en ds fi) ns np en := by
  obtain ⟨hK, hE, hP, hU, hS⟩ := hF
  refine ⟨⟨ux_ck_2 hK.1, ?_⟩, ?_, ⟨hP.1, ?_⟩, ?_, ?_⟩
  · intro a ha
    by_cases z : ux_lo kd en ds fi a
    · exact Or.inl (ux_ck_t z)
    · rw [ux_ck_f z]; exact hK.2 a ha
  · intro j hj
    rcases hE j hj with h | ⟨a, a0, a1, a2, a3, a4⟩
    · exact Or.inl h
    · exact Or.inr ⟨a, a0, a1, a2, by rw [ux_ck_en ⟨j, hj, a2⟩]; exact a3, ux_ck_2 a4⟩
  · intro a a0 a1 ak
    obtain ⟨c, c1, c2, c3, c4⟩ := hP.2 a a0 a1 (ux_ck_of ak ux_n20).1
    exact ⟨c, c1, c2, ux_ck_2 c3, c4⟩
  · intro i j a hi hj a0 a1 ei ej ek
    exact hU i j a hi hj a0 a1 ei ej (ux_ck_of ek ux_n20).1
  · intro a ha
    exact ⟨fun h => (hS a ha).1 (ux_ck_of h ux_n20).1, fun h => (hS a ha).2 (ux_ck_of h ux_n10).1⟩
theorem ux_O_ck (hO : ux_O kd ds fi ow po) : ux_O (ux_ck kd en ds fi) ds fi ow po :=
  ux_O_kd hO (fun j o a hj ho e e2 _ _ h => by rw [ux_ck_op ⟨j, o, hj, ho, e, e2⟩]; exact h)
theorem ux_R_ck (hR : ux_R kd st pp qp pc pn) : ux_R (ux_ck kd en ds fi) st pp qp pc pn :=
  ux_R_kd hR (fun _ _ _ _ _ _ h => ux_ck_2 h)
theorem ux_L_ck : ux_L (ux_ck kd en ds fi) en ds fi := by
  intro a a0 a1 ak
  obtain ⟨h1, h2⟩ := ux_ck_of ak ux_n10
  by_cases z : ux_en en a
  · exact Or.inl z
  · by_cases z2 : ux_op ds fi a
    · exact Or.inr z2
    · exact absurd ⟨a1, h1, z, z2⟩ h2
end UX2
end
section
section UX3
variable {kd ns np en ds dt fi ow po st pp qp pc pn qu : Nat → Int32} {n d m p c k o : Nat} {x : Int32}
/-! descriptors -/
theorem ux_D_upd (hD : ux_D ds) (hx : ux_V x) : ux_D (upd ds k x) := by
  intro j hj
  by_cases e : j = k
  · rw [e, ux_us]; exact hx
  · rw [ux_un e]; exact hD j hj
theorem ux_O_sub (hO : ux_O kd ds fi ow po) (h : ∀ j o, j < 20 → o < 8 → dt j = nI (1 + o) → ∃ i, i < 20 ∧ ds i = nI (1 + o)) : ux_O kd dt fi ow po := by
  intro j o hj ho e
  obtain ⟨i, hi, e2⟩ := h j o hj ho e
  exact hO i o hi ho e2
theorem ux_L_mono (hL : ux_L kd en ds fi) (h : ∀ j o, j < 20 → o < 8 → ds j = nI (1 + o) → ∃ i, i < 20 ∧ dt i = nI (1 + o)) : ux_L kd en dt fi := by
  intro a a0 a1 ak
  rcases hL a a0 a1 ak with z | ⟨j, o, hj, ho, e1, e2⟩
  · exact Or.inl z
  · obtain ⟨i, hi, e3⟩ := h j o hj ho e1
    exact Or.inr ⟨i, o, hi, ho, e3, e2⟩
theorem ux_o0 : nI (1 + o) ≠ 0 ∨ ¬ o < 8 := by
  by_cases h : o < 8
  · exact Or.inl (ux_nz (by omega) (by omega))
  · exact Or.inr h
theorem ux_grow (h0 : ds k = 0) : ∀ j o, j < 20 → o < 8 → ds j = nI (1 + o) → ∃ i, i < 20 ∧ upd ds k x i = nI (1 + o) := by
  intro j o hj ho e
  refine ⟨j, hj, ?_⟩
  rw [ux_un ?_]
  · exact e
  · intro ek
    rw [ek, h0] at e
    exact ux_nz (by omega) (by omega) e.symm
theorem ux_Z_upd (hZ : ux_Z st ds) (hp : st p = 1 ∨ st p = 2) (hd : d < 4) : ux_Z st (upd ds (p * 4 + d) x) := by
  intro a i ha hi hs
  rw [ux_un ?_]
  · exact hZ a i ha hi hs
  · intro e
    have : a = p := by omega
    subst this
    rcases hs with h | h <;> rcases hp with h2 | h2 <;> rw [h] at h2 <;> exact absurd h2 (by decide)
/-! a new opening -/
theorem ux_O_open {q : Nat} {w : Int32} (hO : ux_O kd ds fi ow po) (ho : o < 8) (hn0 : 0 < n) (hn : n < 10) (hk : kd n = 1) (hw : w = 0 ∨ w = 1) (hq : q ≤ 20) (hh : ∀ j, j < 20 → ds j ≠ nI (1 + o)) : ux_O kd (upd ds k (nI (1 + o))) (upd fi o (nI n)) (upd ow o w) (upd po o (nI q)) := by
  intro j a hj ha e
  by_cases ea : a = o
  · rw [ea, ux_us, ux_us, ux_us]
    exact ⟨⟨n, hn0, hn, rfl, hk⟩, hw, q, hq, rfl⟩
  · rw [ux_un ea, ux_un ea, ux_un ea]
    by_cases ej : j = k
    · rw [ej, ux_us] at e
      have := ux_inj e (by omega) (by omega)
      omega
    · rw [ux_un ej] at e
      exact hO j a hj ha e
theorem ux_L_open (hL : ux_L kd en ds fi) (h0 : ds k = 0) (hh : ∀ j, j < 20 → ds j ≠ nI (1 + o)) : ux_L kd en (upd ds k (nI (1 + o))) (upd fi o (nI n)) := by
  intro a a0 a1 ak
  rcases hL a a0 a1 ak with z | ⟨j, b, hj, hb, e1, e2⟩
  · exact Or.inl z
  · refine Or.inr ⟨j, b, hj, hb, ?_, ?_⟩
    · rw [ux_un ?_]
      · exact e1
      · intro ek
        rw [ek, h0] at e1
        exact ux_nz (by omega) (by omega) e1.symm
    · rw [ux_un ?_]
      · exact e2
      · intro eb
        rw [eb] at e1
        exact hh j hj e1
theorem ux_O_po {q : Nat} (hO : ux_O kd ds fi ow po) (hq : q ≤ 20) : ux_O kd ds fi ow (upd po o (nI q)) := by
  intro j a hj ha e
  obtain ⟨h1, h2, h3⟩ := hO j a hj ha e
  refine ⟨h1, h2, ?_⟩
  by_cases ea : a = o
  · rw [ea, ux_us]; exact ⟨q, hq, rfl⟩
  · rw [ux_un ea]; exact h3
/-! processes -/
theorem ux_n3 : (3 : Int32) ≠ 0 ∧ (3 : Int32) ≠ 1 ∧ (3 : Int32) ≠ 2 := by decide
theorem ux_R_one {y : Int32} (hR : ux_R kd st pp qp pc pn) (hs : x = 1 ∨ x = 2) (hy : y = -1 ∨ ∃ c, c < 5 ∧ c ≠ p ∧ y = nI c) (hd : d < 10) (hd2 : kd d = 2) (hm : m ≤ 20) : ux_R kd (upd st p x) (upd pp p y) (upd qp p y) (upd pc p (nI d)) (upd pn p (nI m)) := by
  intro a ha
  by_cases e : a = p
  · rw [e, ux_us, ux_us, ux_us, ux_us, ux_us]
    refine ⟨?_, fun _ => ⟨rfl, hy⟩, fun _ => ⟨⟨d, hd, rfl, hd2⟩, m, hm, rfl⟩⟩
    rcases hs with h | h
    · exact Or.inr (Or.inl h)
    · exact Or.inr (Or.inr (Or.inl h))
  · rw [ux_un e, ux_un e, ux_un e, ux_un e, ux_un e]
    exact hR a ha
theorem ux_R_pc (hR : ux_R kd st pp qp pc pn) (hd : d < 10) (hd2 : kd d = 2) : ux_R kd st pp qp (upd pc p (nI d)) pn := by
  intro a ha
  obtain ⟨h1, h2, h3⟩ := hR a ha
  refine ⟨h1, h2, fun hs => ⟨?_, (h3 hs).2⟩⟩
  by_cases e : a = p
  · rw [e, ux_us]; exact ⟨d, hd, rfl, hd2⟩
  · rw [ux_un e]; exact (h3 hs).1
theorem ux_R_pn (hR : ux_R kd st pp qp pc pn) (hm : m ≤ 20) : ux_R kd st pp qp pc (upd pn p (nI m)) := by
  intro a ha
  obtain ⟨h1, h2, h3⟩ := hR a ha
  refine ⟨h1, h2, fun hs => ⟨(h3 hs).1, ?_⟩⟩
  by_cases e : a = p
  · rw [e, ux_us]; exact ⟨m, hm, rfl⟩
  · rw [ux_un e]; exact (h3 hs).2
theorem ux_R_fr (hR : ux_R kd st pp qp pc pn) : ux_R kd (upd st p 0) pp qp pc pn := by
  intro a ha
  by_cases e : a = p
  · rw [e, ux_us]
    exact ⟨Or.inl rfl, fun h => absurd rfl h, fun h => absurd h (by decide)⟩
  · rw [ux_un e]; exact hR a ha
theorem ux_R_st (hR : ux_R kd st pp qp pc pn) (hp : st p = 1 ∨ st p = 2) (hs : x = 1 ∨ x = 2) : ux_R kd (upd st p x) pp qp pc pn := by
  intro a ha
  by_cases e : a = p
  · rw [e, ux_us]
    subst e
    obtain ⟨h1, h2, h3⟩ := hR a ha
    refine ⟨?_, fun _ => h2 ?_, fun _ => h3 hp⟩
    · rcases hs with h | h
      · exact Or.inr (Or.inl h)
      · exact Or.inr (Or.inr (Or.inl h))
    · rcases hp with h | h <;> rw [h] <;> decide
  · rw [ux_un e]; exact hR a ha
theorem ux_Z_st (hZ : ux_Z st ds) (hs : x = 1 ∨ x = 2) : ux_Z (upd st p x) ds := by
  intro a i ha hi h
  by_cases e : a = p
  · rw [e, ux_us] at h
    rcases hs with h2 | h2 <;> rw [h2] at h <;> exact absurd h (by decide)
  · rw [ux_un e] at h; exact hZ a i ha hi h
theorem ux_Z_fr (hZ : ux_Z st ds) (h3 : st p = 3) : ux_Z (upd st p 0) ds := by
  intro a i ha hi h
  by_cases e : a = p
  · rw [e]; rw [e] at ha; exact hZ p i ha hi (Or.inr h3)
  · rw [ux_un e] at h; exact hZ a i ha hi h
/-! an end: children, as each side has them behind the first i -/
def ux_s1 (st pp : Nat → Int32) (p i : Nat) : Nat → Int32 := fun c => if c < i ∧ pp c = nI p ∧ st c = 3 then 0 else st c
def ux_p1 (pp : Nat → Int32) (p i : Nat) : Nat → Int32 := fun c => if c < i ∧ pp c = nI p then -1 else pp c
def ux_s2 (st qp : Nat → Int32) (p i : Nat) : Nat → Int32 := fun c => if c < i ∧ c ≠ p ∧ st c ≠ 0 ∧ qp c = nI p ∧ st c = 3 then 0 else st c
def ux_p2 (st qp : Nat → Int32) (p i : Nat) : Nat → Int32 := fun c => if c < i ∧ c ≠ p ∧ st c ≠ 0 ∧ qp c = nI p then -1 else qp c
theorem ux_own (hR : ux_R kd st pp qp pc pn) (hp : p < 5) (hs : st p ≠ 0) : pp p ≠ nI p := by
  intro e
  rcases ((hR p hp).2.1 hs).2 with h | ⟨c, hc, hcp, h⟩
  · rw [h] at e; exact ux_neg1 (by omega) e.symm
  · rw [h] at e; exact hcp (ux_inj e (by omega) (by omega))
theorem ux_s12 (hR : ux_R kd st pp qp pc pn) (hp : p < 5) (hs : st p ≠ 0) : ux_s2 st qp p 5 = ux_s1 st pp p 5 := by
  funext a
  unfold ux_s1 ux_s2
  by_cases h3 : a < 5 ∧ st a = 3
  · have h0 : st a ≠ 0 := by rw [h3.2]; decide
    have hq := ((hR a h3.1).2.1 h0).1
    by_cases e : pp a = nI p
    · have hap : a ≠ p := fun z => ux_own hR hp hs (z ▸ e)
      rw [if_pos ⟨h3.1, hap, h0, hq ▸ e, h3.2⟩, if_pos ⟨h3.1, e, h3.2⟩]
    · rw [if_neg (fun z => e (hq ▸ z.2.2.2.1)), if_neg (fun z => e z.2.1)]
  · rw [if_neg (fun z => h3 ⟨z.1, z.2.2.2.2⟩), if_neg (fun z => h3 ⟨z.1, z.2.2⟩)]
theorem ux_s1_of (h : ux_s1 st pp p k c = x) (hx : x ≠ 0) : st c = x := by
  unfold ux_s1 at h
  by_cases z : c < k ∧ pp c = nI p ∧ st c = 3
  · rw [if_pos z] at h; exact absurd h.symm hx
  · rw [if_neg z] at h; exact h
theorem ux_s1_to (h : st c ≠ 3) : ux_s1 st pp p k c = st c := if_neg (fun z => h z.2.2)
theorem ux_R_end (hR : ux_R kd st pp qp pc pn) (hp : p < 5) (hs : st p ≠ 0) (hx : x = 0 ∨ x = 3) : ux_R kd (upd (ux_s1 st pp p 5) p x) (ux_p1 pp p 5) (ux_p2 st qp p 5) pc pn := by
  intro a ha
  obtain ⟨h1, h2, h3⟩ := hR a ha
  by_cases e : a = p
  · subst e
    rw [ux_us]
    refine ⟨?_, fun _ => ?_, fun h => ?_⟩
    · rcases hx with h | h
      · exact Or.inl h
      · exact Or.inr (Or.inr (Or.inr h))
    · have e1 : ux_p1 pp a 5 a = pp a := if_neg (fun z => ux_own hR hp hs z.2)
      have e2 : ux_p2 st qp a 5 a = qp a := if_neg (fun z => z.2.1 rfl)
      rw [e1, e2]
      exact h2 hs
    · rcases hx with h5 | h5 <;> rw [h5] at h <;> exact absurd h (by decide)
  · rw [ux_un e]
    refine ⟨?_, fun h0 => ?_, fun h => ?_⟩
    · by_cases z : a < 5 ∧ pp a = nI p ∧ st a = 3
      · exact Or.inl (if_pos z)
      · rw [show ux_s1 st pp p 5 a = st a from if_neg z]; exact h1
    · have hsa : st a ≠ 0 := by
        intro z
        rw [ux_s1_to (by rw [z]; decide)] at h0
        exact h0 z
      obtain ⟨g1, g2⟩ := h2 hsa
      by_cases ep : pp a = nI p
      · have e1 : ux_p1 pp p 5 a = -1 := if_pos ⟨ha, ep⟩
        have e2 : ux_p2 st qp p 5 a = -1 := if_pos ⟨ha, e, hsa, g1 ▸ ep⟩
        rw [e1, e2]
        exact ⟨rfl, Or.inl rfl⟩
      · have e1 : ux_p1 pp p 5 a = pp a := if_neg (fun z => ep z.2)
        have e2 : ux_p2 st qp p 5 a = qp a := if_neg (fun z => ep (g1 ▸ z.2.2.2))
        rw [e1, e2]
        exact ⟨g1, g2⟩
    · refine h3 ?_
      rcases h with h | h
      · exact Or.inl (ux_s1_of h (by decide))
      · exact Or.inr (ux_s1_of h (by decide))
def ux_zp (ds : Nat → Int32) (p : Nat) : Nat → Int32 := upd (upd (upd (upd ds (p * 4) 0) (p * 4 + 1) 0) (p * 4 + 2) 0) (p * 4 + 3) 0
theorem ux_zp_in (hd : d < 4) : ux_zp ds p (p * 4 + d) = 0 := by
  unfold ux_zp upd
  split
  · rfl
  · split
    · rfl
    · split
      · rfl
      · split
        · rfl
        · omega
theorem ux_zp_or (j : Nat) : ux_zp ds p j = 0 ∨ ux_zp ds p j = ds j := by
  unfold ux_zp upd
  split
  · exact Or.inl rfl
  · split
    · exact Or.inl rfl
    · split
      · exact Or.inl rfl
      · split
        · exact Or.inl rfl
        · exact Or.inr rfl
theorem ux_D_zp (hD : ux_D ds) : ux_D (ux_zp ds p) := by
  intro j hj
  rcases ux_zp_or (ds := ds) (p := p) j with h | h
  · exact Or.inl h
  · rw [h]; exact hD j hj
theorem ux_O_zp (hO : ux_O kd ds fi ow po) : ux_O kd (ux_zp ds p) fi ow po := by
  refine ux_O_sub hO (fun j o hj ho e => ⟨j, hj, ?_⟩)
  rcases ux_zp_or (ds := ds) (p := p) j with h | h
  · rw [h] at e; exact absurd e.symm (ux_nz (by omega) (by omega))
  · rw [← h]; exact e
theorem ux_Z_end (hZ : ux_Z st ds) : ux_Z (upd (ux_s1 st pp p 5) p x) (ux_zp ds p) := by
  intro a i ha hi h
  by_cases e : a = p
  · rw [e]; exact ux_zp_in hi
  · rw [ux_un e] at h
    have hs : st a = 0 ∨ st a = 3 := by
      by_cases z : a < 5 ∧ pp a = nI p ∧ st a = 3
      · exact Or.inr z.2.2
      · rw [show ux_s1 st pp p 5 a = st a from if_neg z] at h; exact h
    rcases ux_zp_or (ds := ds) (p := p) (a * 4 + i) with h2 | h2
    · exact h2
    · rw [h2]; exact hZ a i ha hi hs
end UX3
end
section
section UX4
variable {kd ns np en ds st pp qu : Nat → Int32} {n d m p c k o : Nat} {x : Int32}
/-! pigeons -/
theorem ux_pig : ∀ (n m : Nat) (f : Nat → Nat), (∀ i, i < m → f i < n) → (∀ i j, i < j → j < m → f i ≠ f j) → m ≤ n := by
  intro n
  induction n with
  | zero =>
    intro m f h _
    rcases Nat.eq_zero_or_pos m with h0 | h0
    · omega
    · have := h 0 h0; omega
  | succ n ih =>
    intro m f h hi
    rcases ux_ls (fun i => f i = n) m with ⟨a, ha, e, _⟩ | hno
    · have := ih (m - 1) (fun i => if i < a then f i else f (i + 1)) (by
        intro i hm
        show (if i < a then f i else f (i + 1)) < n
        by_cases hl : i < a
        · rw [if_pos hl]
          have h1 := h i (by omega)
          have h2 := hi i a hl ha
          omega
        · rw [if_neg hl]
          have h1 := h (i + 1) (by omega)
          have h2 := hi a (i + 1) (by omega) (by omega)
          omega) (by
        intro i j hij hj
        show (if i < a then f i else f (i + 1)) ≠ (if j < a then f j else f (j + 1))
        by_cases hl : i < a
        · by_cases hl2 : j < a
          · rw [if_pos hl, if_pos hl2]; exact hi i j hij (by omega)
          · rw [if_pos hl, if_neg hl2]; exact hi i (j + 1) (by omega) (by omega)
        · rw [if_neg hl, if_neg (by omega)]; exact hi (i + 1) (j + 1) (by omega) (by omega))
      omega
    · have := ih m f (fun i hm => by
        have h1 := h i hm
        have h2 := hno i hm
        have h3 : f i ≠ n := h2
        omega) hi
      omega
theorem ux_room (hQ : ux_Q st qu m) (hp : p < 5) (hN : ux_N qu m p) : m < 5 := by
  obtain ⟨h5, h1, h2⟩ := hQ
  by_cases hm : m < 5
  · exact hm
  · have e : m = 5 := by omega
    subst e
    have hg : ∀ i, ∃ a, i < 5 → a < 5 ∧ qu i = nI a := by
      intro i
      by_cases hi : i < 5
      · obtain ⟨a, a1, a2, _⟩ := h1 i hi
        exact ⟨a, fun _ => ⟨a1, a2⟩⟩
      · exact ⟨0, fun h => absurd h hi⟩
    have hc := fun i => (hg i).choose_spec
    generalize hf : (fun i => (hg i).choose) = f at hc
    have hc2 : ∀ i, i < 5 → f i < 5 ∧ qu i = nI (f i) := by
      intro i hi
      rw [← hf]
      exact (hg i).choose_spec hi
    have := ux_pig 5 6 (fun i => if i < 5 then f i else p) (by
      intro i hi
      show (if i < 5 then f i else p) < 5
      by_cases hl : i < 5
      · rw [if_pos hl]; exact (hc2 i hl).1
      · rw [if_neg hl]; exact hp) (by
      intro i j hij hj
      show (if i < 5 then f i else p) ≠ (if j < 5 then f j else p)
      rw [if_pos (by omega)]
      by_cases hl : j < 5
      · rw [if_pos hl]
        intro e
        refine h2 i j hij hl ?_
        rw [(hc2 i (by omega)).2, (hc2 j hl).2, e]
      · rw [if_neg hl]
        intro e
        refine hN i (by omega) ?_
        rw [(hc2 i (by omega)).2, e])
    omega
theorem ux_Q_join (hQ : ux_Q st qu m) (hp : p < 5) (hN : ux_N qu m p) (hs : st p = 1) : ux_Q st (upd qu m (nI p)) (m + 1) := by
  have hm := ux_room hQ hp hN
  obtain ⟨h5, h1, h2⟩ := hQ
  refine ⟨by omega, fun i hi => ?_, fun i j hij hj => ?_⟩
  · by_cases e : i = m
    · rw [e, ux_us]; exact ⟨p, hp, rfl, hs⟩
    · rw [ux_un e]; exact h1 i (by omega)
  · by_cases e : j = m
    · rw [e, ux_us, ux_un (by omega)]
      exact hN i (by omega)
    · rw [ux_un e, ux_un (by omega)]
      exact h2 i j hij (by omega)
theorem ux_N_join (hN : ux_N qu m p) (hc : c ≠ p) (h1 : c < 5) (h2 : p < 5) : ux_N (upd qu m (nI c)) (m + 1) p := by
  intro i hi
  by_cases e : i = m
  · rw [e, ux_us]; exact ux_ne hc (by omega) (by omega)
  · rw [ux_un e]; exact hN i (by omega)
theorem ux_Q_st {su : Nat → Int32} (hQ : ux_Q st qu m) (h : ∀ p, p < 5 → st p = 1 → (∃ i, i < m ∧ qu i = nI p) → su p = 1) : ux_Q su qu m := by
  obtain ⟨h5, h1, h2⟩ := hQ
  refine ⟨h5, fun i hi => ?_, h2⟩
  obtain ⟨a, a1, a2, a3⟩ := h1 i hi
  exact ⟨a, a1, a2, h a a1 a3 ⟨i, hi, a2⟩⟩
theorem ux_Q_upd (hQ : ux_Q st qu m) (hN : ux_N qu m p) : ux_Q (upd st p x) qu m :=
  ux_Q_st hQ (fun a _ h ⟨i, hi, e⟩ => by rw [ux_un (show a ≠ p from fun z => hN i hi (by rw [← z]; exact e))]; exact h)
theorem ux_Q_up1 (hQ : ux_Q st qu m) : ux_Q (upd st p 1) qu m := by
  refine ux_Q_st hQ (fun a _ h _ => ?_)
  by_cases e : a = p
  · rw [e, ux_us]
  · rw [ux_un e]; exact h
theorem ux_Q_N (hQ : ux_Q st qu m) (hs : st p ≠ 1) (hp : p < 5) : ux_N qu m p := by
  intro i hi e
  obtain ⟨a, a1, a2, a3⟩ := hQ.2.1 i hi
  rw [e] at a2
  rw [ux_inj a2 (by omega) (by omega)] at hs
  exact hs a3
theorem ux_Q_end (hQ : ux_Q st qu m) (hN : ux_N qu m p) : ux_Q (upd (ux_s1 st pp p 5) p x) qu m := by
  refine ux_Q_st hQ (fun a _ h ⟨i, hi, e⟩ => ?_)
  rw [ux_un (show a ≠ p from fun z => hN i hi (by rw [← z]; exact e)), ux_s1_to (by rw [h]; decide)]
  exact h
/-! leaving -/
def ux_lk (q : Nat → Int32) (p : Nat) : Nat → (Nat → Int32) × Nat
  | 0 => (q, 0)
  | k + 1 => if (ux_lk q p k).1 k = nI p then ux_lk q p k else (upd (ux_lk q p k).1 (ux_lk q p k).2 ((ux_lk q p k).1 k), (ux_lk q p k).2 + 1)
theorem ux_lk_t {q : Nat → Int32} (h : (ux_lk q p k).1 k = nI p) : ux_lk q p (k + 1) = ux_lk q p k := if_pos h
theorem ux_lk_f {q : Nat → Int32} (h : ¬ (ux_lk q p k).1 k = nI p) : ux_lk q p (k + 1) = (upd (ux_lk q p k).1 (ux_lk q p k).2 ((ux_lk q p k).1 k), (ux_lk q p k).2 + 1) := if_neg h
theorem ux_lk_le {q : Nat → Int32} : ∀ k, (ux_lk q p k).2 ≤ k ∧ ∀ j, k ≤ j → (ux_lk q p k).1 j = q j := by
  intro k
  induction k with
  | zero => exact ⟨Nat.le_refl 0, fun _ _ => rfl⟩
  | succ k ih =>
    by_cases h : (ux_lk q p k).1 k = nI p
    · rw [ux_lk_t h]; exact ⟨by omega, fun j hj => ih.2 j (by omega)⟩
    · rw [ux_lk_f h]
      refine ⟨by show _ + 1 ≤ _; omega, fun j hj => ?_⟩
      show upd _ _ _ j = _
      rw [ux_un (by omega)]; exact ih.2 j (by omega)
theorem ux_lk_in {q : Nat → Int32} : ∀ k, ∀ i, i < (ux_lk q p k).2 → ∃ j, j < k ∧ (ux_lk q p k).1 i = q j ∧ q j ≠ nI p := by
  intro k
  induction k with
  | zero => intro i hi; exact absurd hi (Nat.not_lt_zero i)
  | succ k ih =>
    by_cases h : (ux_lk q p k).1 k = nI p
    · rw [ux_lk_t h]
      intro i hi
      obtain ⟨j, j1, j2⟩ := ih i hi
      exact ⟨j, by omega, j2⟩
    · rw [ux_lk_f h]
      intro i hi
      have hi2 : i < (ux_lk q p k).2 + 1 := hi
      show ∃ j, j < k + 1 ∧ upd _ _ _ i = q j ∧ q j ≠ nI p
      have hk := (ux_lk_le (q := q) (p := p) k).2 k (Nat.le_refl k)
      by_cases e : i = (ux_lk q p k).2
      · rw [e, ux_us]
        exact ⟨k, by omega, hk, by rw [← hk]; exact h⟩
      · rw [ux_un e]
        obtain ⟨j, j1, j2⟩ := ih i (by omega)
        exact ⟨j, by omega, j2⟩
theorem ux_lk_di {q : Nat → Int32} : ∀ k, (∀ i j, i < j → j < k → q i ≠ q j) → ∀ i j, i < j → j < (ux_lk q p k).2 → (ux_lk q p k).1 i ≠ (ux_lk q p k).1 j := by
  intro k
  induction k with
  | zero => intro _ i j _ hj; exact absurd hj (Nat.not_lt_zero j)
  | succ k ih =>
    intro hq
    have ih2 := ih (fun i j h1 h2 => hq i j h1 (by omega))
    by_cases h : (ux_lk q p k).1 k = nI p
    · rw [ux_lk_t h]; exact ih2
    · rw [ux_lk_f h]
      intro i j hij hj
      have hj2 : j < (ux_lk q p k).2 + 1 := hj
      show upd _ _ _ i ≠ upd _ _ _ j
      have hk := (ux_lk_le (q := q) (p := p) k).2 k (Nat.le_refl k)
      by_cases e : j = (ux_lk q p k).2
      · rw [e, ux_us, ux_un (by omega), hk]
        obtain ⟨a, a1, a2, _⟩ := ux_lk_in (q := q) (p := p) k i (by omega)
        rw [a2]
        exact hq a k a1 (by omega)
      · rw [ux_un e, ux_un (by omega)]
        exact ih2 i j hij (by omega)
theorem ux_lk_id {q : Nat → Int32} : ∀ k, (∀ i, i < k → q i ≠ nI p) → ux_lk q p k = (q, k) := by
  intro k
  induction k with
  | zero => intro _; rfl
  | succ k ih =>
    intro h
    have e := ih (fun i hi => h i (by omega))
    have hf : ¬ (ux_lk q p k).1 k = nI p := by rw [e]; exact h k (by omega)
    rw [ux_lk_f hf, e]
    show (upd q k (q k), k + 1) = (q, k + 1)
    rw [ux_ue rfl]
theorem ux_Q_lk (hQ : ux_Q st qu m) : ux_Q st (ux_lk qu p m).1 (ux_lk qu p m).2 ∧ ux_N (ux_lk qu p m).1 (ux_lk qu p m).2 p := by
  obtain ⟨h5, h1, h2⟩ := hQ
  have hl := (ux_lk_le (q := qu) (p := p) m).1
  refine ⟨⟨by omega, fun i hi => ?_, ux_lk_di m h2⟩, fun i hi => ?_⟩
  · obtain ⟨j, j1, j2, _⟩ := ux_lk_in (q := qu) (p := p) m i hi
    rw [j2]; exact h1 j j1
  · obtain ⟨j, j1, j2, j3⟩ := ux_lk_in (q := qu) (p := p) m i hi
    rw [j2]; exact j3
theorem ux_N_lk (hN : ux_N qu m c) : ux_N (ux_lk qu p m).1 (ux_lk qu p m).2 c := by
  intro i hi
  obtain ⟨j, j1, j2, j3⟩ := ux_lk_in (q := qu) (p := p) m i hi
  rw [j2]; exact hN j j1
/-! the pictures under stores -/
theorem ux_EN_lt (h : k < 150) : ux_EN en k = if en k = 0 then -1 else en k := if_pos h
theorem ux_EN_0 (h : k < 150) (h0 : en k = 0) : ux_EN en k = -1 := by rw [ux_EN_lt h, if_pos h0]
theorem ux_EN_1 (h : k < 150) (h0 : en k ≠ 0) : ux_EN en k = en k := by rw [ux_EN_lt h, if_neg h0]
theorem ux_EN_u1 (h : k < 150) (hx : x ≠ 0) : ux_EN (upd en k x) = upd (ux_EN en) k x := by
  funext j
  by_cases e : j = k
  · rw [e, ux_us, ux_EN_1 h (by rw [ux_us]; exact hx), ux_us]
  · rw [ux_un e]
    unfold ux_EN
    rw [ux_un e]
theorem ux_EN_u0 (h : k < 150) : ux_EN (upd en k 0) = upd (ux_EN en) k (-1) := by
  funext j
  by_cases e : j = k
  · rw [e, ux_us, ux_EN_0 h ux_us]
  · rw [ux_un e]
    unfold ux_EN
    rw [ux_un e]
theorem ux_ED_u : ux_ED (upd ds k x) = upd (ux_ED ds) k (ux_cv x) := by
  funext j
  by_cases e : j = k
  · rw [e, ux_us]; unfold ux_ED; rw [ux_us]
  · rw [ux_un e]; unfold ux_ED; rw [ux_un e]
theorem ux_cv0 : ux_cv 0 = 0 := by decide
theorem ux_cvo : ∀ o, o < 8 → ux_cv (nI (1 + o)) = nI (1 + o) := by decide +kernel
theorem ux_cvr : ∀ k, k < 2 → ux_cv (nI (4096 + k)) = nI (101 + k) := by decide +kernel
theorem ux_cvw : ∀ k, k < 2 → ux_cv (nI (8192 + k)) = nI (201 + k) := by decide +kernel
theorem ux_LN_f (h : kd k ≠ 2) : ux_LN kd ns k = ns k := if_neg h
theorem ux_LN_u (hk : kd k ≠ 2) : ux_LN kd (upd ns k x) = upd (ux_LN kd ns) k x := by
  funext j
  by_cases e : j = k
  · rw [e, ux_us, ux_LN_f hk, ux_us]
  · rw [ux_un e]; unfold ux_LN; rw [ux_un e]
theorem ux_LN_d (hk : kd k = 2) : ux_LN kd (upd ns k x) = ux_LN kd ns := by
  funext j
  unfold ux_LN
  by_cases e : j = k
  · rw [e, if_pos hk, if_pos hk]
  · rw [ux_un e]
theorem ux_LN_k {ku : Nat → Int32} (h : ∀ j, kd j = 2 ↔ ku j = 2) : ux_LN kd ns = ux_LN ku ns := by
  funext j
  unfold ux_LN
  by_cases e : kd j = 2
  · rw [if_pos e, if_pos ((h j).mp e)]
  · rw [if_neg e, if_neg (fun z => e ((h j).mpr z))]
theorem ux_LN_ck {fi : Nat → Int32} : ux_LN (ux_ck kd en ds fi) ns = ux_LN kd ns :=
  (ux_LN_k (fun j => ⟨fun h => ux_ck_2 h, fun h => (ux_ck_of h ux_n20).1⟩)).symm
theorem ux_LN_new (hk : kd n ≠ 2) (hd : kd d = 2) : ux_LN (upd kd n x) (upd (upd ns n 0) d (upd ns n 0 d + 1)) = upd (ux_LN kd ns) n 0 := by
  funext j
  unfold ux_LN
  by_cases e : j = n
  · rw [e, ux_us, ux_us, ux_un (f := upd ns n 0) (ux_nx hd hk).symm, ux_us]
    split <;> rfl
  · rw [ux_un e, ux_un (f := fun n => if kd n = 2 then 0 else ns n) e]
    by_cases e2 : j = d
    · rw [e2, if_pos hd, if_pos hd]
    · rw [ux_un e2, ux_un e]
theorem ux_LN_rd (hk : kd n = 2) (h0 : ns n = 0) : ux_LN (upd kd n 0) ns = ux_LN kd ns := by
  funext j
  unfold ux_LN
  by_cases e : j = n
  · rw [e, ux_us, if_neg ux_n02, if_pos hk, h0]
  · rw [ux_un e]
end UX4
end
section
section UX5
def ux_J (B : Nat) (kd ns np en ds fi ow po st pp qp pc pn pl qu : Nat → Int32) (m c : Nat) : Prop :=
  ux_FS kd ns np en ∧ ux_D ds ∧ ux_O kd ds fi ow po ∧ ux_Z st ds ∧ ux_R kd st pp qp pc pn ∧ ux_Q st qu m ∧ ux_I pl ∧ ux_L kd en ds fi ∧ c ≤ B
variable {kd ns np en ds fi ow po st pp qp pc pn pl qu q2 : Nat → Int32} {B C n d m m2 p c k o a j q e : Nat} {x y t w z : Int32}
theorem ux_J_mono (hJ : ux_J B kd ns np en ds fi ow po st pp qp pc pn pl qu m c) (h : B ≤ C) : ux_J C kd ns np en ds fi ow po st pp qp pc pn pl qu m c := by
  obtain ⟨h1, h2, h3, h4, h5, h6, h7, h8, h9⟩ := hJ
  exact ⟨h1, h2, h3, h4, h5, h6, h7, h8, Nat.le_trans h9 h⟩
theorem ux_J_out (hJ : ux_J B kd ns np en ds fi ow po st pp qp pc pn pl qu m c) : ux_J (B + 1) kd ns np en ds fi ow po st pp qp pc pn pl qu m (c + 1) := by
  obtain ⟨h1, h2, h3, h4, h5, h6, h7, h8, h9⟩ := hJ
  exact ⟨h1, h2, h3, h4, h5, h6, h7, h8, by omega⟩
theorem ux_J_end (hJ : ux_J B kd ns np en ds fi ow po st pp qp pc pn pl qu m c) (hp : p < 5) (hs : st p = 1 ∨ st p = 2) (hx : x = 0 ∨ x = 3) (hQ : ux_Q st q2 m2) (hN : ux_N q2 m2 p) :
    ux_J B (ux_ck kd en (ux_zp ds p) fi) ns np en (ux_zp ds p) fi ow po (upd (ux_s1 st pp p 5) p x) (ux_p1 pp p 5) (ux_p2 st qp p 5) pc pn pl q2 m2 c := by
  obtain ⟨h1, h2, h3, h4, h5, h6, h7, h8, h9⟩ := hJ
  have h0 : st p ≠ 0 := by rcases hs with h | h <;> rw [h] <;> decide
  exact ⟨ux_FS_ck h1, ux_D_zp h2, ux_O_ck (ux_O_zp h3), ux_Z_end h4, ux_R_ck (ux_R_end h5 hp h0 hx), ux_Q_end hQ hN, h7, ux_L_ck, h9⟩
/-! a new process -/
theorem ux_J_spawn (hJ : ux_J B kd ns np en ds fi ow po st pp qp pc pn pl qu m c) (hp : p < 5) (hs : st p = 0) (hq : q ≤ 20) :
    m < 5 ∧ ux_J B kd ns np en ds fi ow po (upd st p 1) (upd pp p (-1)) (upd qp p (-1)) (upd pc p 0) (upd pn p (nI q)) pl (upd qu m (nI p)) (m + 1) c := by
  obtain ⟨h1, h2, h3, h4, h5, h6, h7, h8, h9⟩ := hJ
  have hN := ux_Q_N h6 (by rw [hs]; decide) hp
  exact ⟨ux_room h6 hp hN, h1, h2, h3, ux_Z_st h4 (Or.inl rfl), ux_R_one (d := 0) h5 (Or.inl rfl) (Or.inl rfl) (by omega) h1.1.1 hq, ux_Q_join (ux_Q_up1 h6) hp hN ux_us, h7, h8, h9⟩
def ux_c4 (f : Nat → Int32) (c p : Nat) : Nat → Int32 := upd (upd (upd (upd f (c * 4) (f (p * 4))) (c * 4 + 1) (f (p * 4 + 1))) (c * 4 + 2) (f (p * 4 + 2))) (c * 4 + 3) (f (p * 4 + 3))
theorem ux_c4_or {f : Nat → Int32} (j : Nat) : (∃ i, i < 4 ∧ j = c * 4 + i ∧ ux_c4 f c p j = f (p * 4 + i)) ∨ ((∀ i, i < 4 → j ≠ c * 4 + i) ∧ ux_c4 f c p j = f j) := by
  unfold ux_c4 upd
  split
  · exact Or.inl ⟨3, by omega, by assumption, rfl⟩
  · split
    · exact Or.inl ⟨2, by omega, by assumption, rfl⟩
    · split
      · exact Or.inl ⟨1, by omega, by assumption, rfl⟩
      · split
        · exact Or.inl ⟨0, by omega, by assumption, rfl⟩
        · exact Or.inr ⟨fun i hi => by omega, rfl⟩
theorem ux_J_fork (hJ : ux_J B kd ns np en ds fi ow po st pp qp pc pn pl qu m e) (hp : p < 5) (hs : st p = 1) (hc : c < 5) (h0 : st c = 0) (hd : d < 10) (hd2 : kd d = 2) (hq : q ≤ 20) (hN : ux_N qu m p) :
    m < 5 ∧ ux_J B kd ns np en (ux_c4 ds c p) fi ow po (upd st c 1) (upd pp c (nI p)) (upd qp c (nI p)) (upd pc c (nI d)) (upd pn c (nI q)) pl (upd qu m (nI c)) (m + 1) e ∧ ux_N (upd qu m (nI c)) (m + 1) p ∧ c ≠ p := by
  obtain ⟨h1, h2, h3, h4, h5, h6, h7, h8, h9⟩ := hJ
  have hcp : c ≠ p := by
    intro z; rw [z, hs] at h0; exact absurd h0 (by decide)
  have hNc := ux_Q_N h6 (by rw [h0]; decide) hc
  refine ⟨ux_room h6 hc hNc, ⟨h1, ?_, ?_, ?_, ux_R_one h5 (Or.inl rfl) (Or.inr ⟨p, hp, Ne.symm hcp, rfl⟩) hd hd2 hq, ux_Q_join (ux_Q_up1 h6) hc hNc ux_us, h7, ?_, h9⟩, ux_N_join hN hcp hc hp, hcp⟩
  · intro j hj
    rcases ux_c4_or (f := ds) (c := c) (p := p) j with ⟨i, hi, _, ej⟩ | ⟨_, ej⟩
    · rw [ej]; exact h2 _ (by omega)
    · rw [ej]; exact h2 _ hj
  · refine ux_O_sub h3 (fun j o hj ho ee => ?_)
    rcases ux_c4_or (f := ds) (c := c) (p := p) j with ⟨i, hi, _, ej⟩ | ⟨_, ej⟩
    · exact ⟨p * 4 + i, by omega, by rw [← ej]; exact ee⟩
    · exact ⟨j, hj, by rw [← ej]; exact ee⟩
  · intro b i hb hi hz
    have hbc : b ≠ c := by
      intro z; rw [z, ux_us] at hz; exact absurd hz (by decide)
    rw [ux_un hbc] at hz
    rcases ux_c4_or (f := ds) (c := c) (p := p) (b * 4 + i) with ⟨i2, hi2, ej, _⟩ | ⟨_, ej⟩
    · omega
    · rw [ej]; exact h4 b i hb hi hz
  · refine ux_L_mono h8 (fun j o hj ho ee => ⟨j, hj, ?_⟩)
    rcases ux_c4_or (f := ds) (c := c) (p := p) j with ⟨i, hi, ec, _⟩ | ⟨_, ej⟩
    · rw [ec, h4 c i hc hi (Or.inl h0)] at ee
      exact absurd ee.symm (ux_nz (by omega) (by omega))
    · rw [ej]; exact ee
theorem ux_J_free (hJ : ux_J B kd ns np en ds fi ow po st pp qp pc pn pl qu m e) (hc : c < 5) (h3 : st c = 3) : ux_J B kd ns np en ds fi ow po (upd st c 0) pp qp pc pn pl qu m e := by
  obtain ⟨h1, h2, h3', h4, h5, h6, h7, h8, h9⟩ := hJ
  exact ⟨h1, h2, h3', ux_Z_fr h4 h3, ux_R_fr h5, ux_Q_upd h6 (ux_Q_N h6 (by rw [h3]; decide) hc), h7, h8, h9⟩
theorem ux_J_stop (hJ : ux_J B kd ns np en ds fi ow po st pp qp pc pn pl qu m e) (hs : st p = 1) (hN : ux_N qu m p) : ux_J B kd ns np en ds fi ow po (upd st p 2) pp qp pc pn pl qu m e := by
  obtain ⟨h1, h2, h3, h4, h5, h6, h7, h8, h9⟩ := hJ
  exact ⟨h1, h2, h3, ux_Z_st h4 (Or.inr rfl), ux_R_st h5 (Or.inl hs) (Or.inr rfl), ux_Q_upd h6 hN, h7, h8, h9⟩
theorem ux_J_wake (hJ : ux_J B kd ns np en ds fi ow po st pp qp pc pn pl qu m e) (hp : p < 5) (hs : st p = 2) : m < 5 ∧ ux_J B kd ns np en ds fi ow po (upd st p 1) pp qp pc pn pl (upd qu m (nI p)) (m + 1) e := by
  obtain ⟨h1, h2, h3, h4, h5, h6, h7, h8, h9⟩ := hJ
  have hN := ux_Q_N h6 (by rw [hs]; decide) hp
  exact ⟨ux_room h6 hp hN, h1, h2, h3, ux_Z_st h4 (Or.inl rfl), ux_R_st h5 (Or.inr hs) (Or.inl rfl), ux_Q_join (ux_Q_up1 h6) hp hN ux_us, h7, h8, h9⟩
theorem ux_J_join (hJ : ux_J B kd ns np en ds fi ow po st pp qp pc pn pl qu m e) (hp : p < 5) (hs : st p = 1) (hN : ux_N qu m p) : m < 5 ∧ ux_J B kd ns np en ds fi ow po st pp qp pc pn pl (upd qu m (nI p)) (m + 1) e := by
  obtain ⟨h1, h2, h3, h4, h5, h6, h7, h8, h9⟩ := hJ
  exact ⟨ux_room h6 hp hN, h1, h2, h3, h4, h5, ux_Q_join h6 hp hN hs, h7, h8, h9⟩
theorem ux_J_take (hJ : ux_J B kd ns np en ds fi ow po st pp qp pc pn pl qu m e) : ux_J B kd ns np en ds fi ow po st pp qp pc pn pl (ux_lk qu p m).1 (ux_lk qu p m).2 e ∧ ux_N (ux_lk qu p m).1 (ux_lk qu p m).2 p := by
  obtain ⟨h1, h2, h3, h4, h5, h6, h7, h8, h9⟩ := hJ
  exact ⟨⟨h1, h2, h3, h4, h5, (ux_Q_lk h6).1, h7, h8, h9⟩, (ux_Q_lk h6).2⟩
theorem ux_J_pc (hJ : ux_J B kd ns np en ds fi ow po st pp qp pc pn pl qu m e) (hd : d < 10) (hd2 : kd d = 2) : ux_J B kd ns np en ds fi ow po st pp qp (upd pc p (nI d)) pn pl qu m e := by
  obtain ⟨h1, h2, h3, h4, h5, h6, h7, h8, h9⟩ := hJ
  exact ⟨h1, h2, h3, h4, ux_R_pc h5 hd hd2, h6, h7, h8, h9⟩
theorem ux_J_pn (hJ : ux_J B kd ns np en ds fi ow po st pp qp pc pn pl qu m e) (hq : q ≤ 20) : ux_J B kd ns np en ds fi ow po st pp qp pc (upd pn p (nI q)) pl qu m e := by
  obtain ⟨h1, h2, h3, h4, h5, h6, h7, h8, h9⟩ := hJ
  exact ⟨h1, h2, h3, h4, ux_R_pn h5 hq, h6, h7, h8, h9⟩
theorem ux_J_po (hJ : ux_J B kd ns np en ds fi ow po st pp qp pc pn pl qu m e) (hq : q ≤ 20) : ux_J B kd ns np en ds fi ow (upd po o (nI q)) st pp qp pc pn pl qu m e := by
  obtain ⟨h1, h2, h3, h4, h5, h6, h7, h8, h9⟩ := hJ
  exact ⟨h1, h2, ux_O_po h3 hq, h4, h5, h6, h7, h8, h9⟩
theorem ux_J_pl (hJ : ux_J B kd ns np en ds fi ow po st pp qp pc pn pl qu m e) (hq : q ≤ 4) : ux_J B kd ns np en ds fi ow po st pp qp pc pn (upd pl k (nI q)) qu m e := by
  obtain ⟨h1, h2, h3, h4, h5, h6, h7, h8, h9⟩ := hJ
  refine ⟨h1, h2, h3, h4, h5, h6, fun a ha => ?_, h8, h9⟩
  by_cases ea : a = k
  · rw [ea, ux_us]; exact ⟨q, hq, rfl⟩
  · rw [ux_un ea]; exact h7 a ha
theorem ux_J_ns (hJ : ux_J B kd ns np en ds fi ow po st pp qp pc pn pl qu m e) (hk : kd n = 1) (hq : q ≤ 20) : ux_J B kd (upd ns n (nI q)) np en ds fi ow po st pp qp pc pn pl qu m e := by
  obtain ⟨h1, h2, h3, h4, h5, h6, h7, h8, h9⟩ := hJ
  exact ⟨ux_FS_ns h1 hk hq, h2, h3, h4, h5, h6, h7, h8, h9⟩
theorem ux_J_new (hJ : ux_J B kd ns np en ds fi ow po st pp qp pc pn pl qu m e) (h0 : 0 < n) (hn : n < 10) (hk : kd n = 0) (hd : d < 10) (hd2 : kd d = 2) (ha : a < 15) (he : en (d * 15 + a) = 0) (hc : ux_cn en d < 6) (ht : t = 1 ∨ t = 2) :
    ux_J B (upd kd n t) (upd (upd ns n 0) d (upd ns n 0 d + 1)) (upd np n (nI d)) (upd en (d * 15 + a) (nI n)) ds fi ow po st pp qp pc pn pl qu m e := by
  obtain ⟨h1, h2, h3, h4, h5, h6, h7, h8, h9⟩ := hJ
  exact ⟨ux_FS_new h1 h0 hn hk hd hd2 ha he hc ht, h2, ux_O_new h3 (by rw [hk]; exact ux_n01), h4, ux_R_new h5 (by rw [hk]; exact ux_n02), h6, h7, ux_L_new h8 hd ha he, h9⟩
theorem ux_J_opn (hJ : ux_J B kd ns np en ds fi ow po st pp qp pc pn pl qu m e) (hp : p < 5) (hs : st p = 1) (hd : d < 4) (hz : ds (p * 4 + d) = 0) (ho : o < 8) (hh : ∀ j, j < 20 → ds j ≠ nI (1 + o)) (hn0 : 0 < n) (hn : n < 10) (hk : kd n = 1) (hw : w = 0 ∨ w = 1) (hq : q ≤ 20) :
    ux_J B kd ns np en (upd ds (p * 4 + d) (nI (1 + o))) (upd fi o (nI n)) (upd ow o w) (upd po o (nI q)) st pp qp pc pn pl qu m e := by
  obtain ⟨h1, h2, h3, h4, h5, h6, h7, h8, h9⟩ := hJ
  exact ⟨h1, ux_D_upd h2 (Or.inr (Or.inl ⟨o, ho, rfl⟩)), ux_O_open h3 ho hn0 hn hk hw hq hh, ux_Z_upd h4 (Or.inl hs) hd, h5, h6, h7, ux_L_open h8 hz hh, h9⟩
theorem ux_J_copy (hJ : ux_J B kd ns np en ds fi ow po st pp qp pc pn pl qu m e) (hs : st p = 1) (hd : d < 4) (hz : ds (p * 4 + d) = 0) (hj : j < 20) :
    ux_J B kd ns np en (upd ds (p * 4 + d) (ds j)) fi ow po st pp qp pc pn pl qu m e := by
  obtain ⟨h1, h2, h3, h4, h5, h6, h7, h8, h9⟩ := hJ
  refine ⟨h1, ux_D_upd h2 (h2 j hj), ux_O_sub h3 (fun i o hi ho ee => ?_), ux_Z_upd h4 (Or.inl hs) hd, h5, h6, h7, ux_L_mono h8 (ux_grow hz), h9⟩
  by_cases ei : i = p * 4 + d
  · rw [ei, ux_us] at ee; exact ⟨j, hj, ee⟩
  · rw [ux_un ei] at ee; exact ⟨i, hi, ee⟩
/-- a descriptor that was nothing becomes an end of a pipe -/
theorem ux_J_pend (hJ : ux_J B kd ns np en ds fi ow po st pp qp pc pn pl qu m e) (hs : st p = 1) (hd : d < 4) (hz : ds (p * 4 + d) = 0) (hx : ∃ k, k < 2 ∧ (x = nI (4096 + k) ∨ x = nI (8192 + k))) :
    ux_J B kd ns np en (upd ds (p * 4 + d) x) fi ow po st pp qp pc pn pl qu m e := by
  obtain ⟨h1, h2, h3, h4, h5, h6, h7, h8, h9⟩ := hJ
  obtain ⟨k, hk, hx⟩ := hx
  refine ⟨h1, ux_D_upd h2 ?_, ux_O_sub h3 (fun i o hi ho ee => ?_), ux_Z_upd h4 (Or.inl hs) hd, h5, h6, h7, ux_L_mono h8 (ux_grow hz), h9⟩
  · rcases hx with h | h
    · exact Or.inr (Or.inr (Or.inl ⟨k, hk, h⟩))
    · exact Or.inr (Or.inr (Or.inr ⟨k, hk, h⟩))
  · by_cases ei : i = p * 4 + d
    · rw [ei, ux_us] at ee
      rcases hx with h | h <;> rw [h] at ee <;> have := ux_inj ee (by omega) (by omega) <;> omega
    · rw [ux_un ei] at ee; exact ⟨i, hi, ee⟩
theorem ux_J_close (hJ : ux_J B kd ns np en ds fi ow po st pp qp pc pn pl qu m e) (hs : st p = 1) (hd : d < 4) :
    ux_J B (ux_ck kd en (upd ds (p * 4 + d) 0) fi) ns np en (upd ds (p * 4 + d) 0) fi ow po st pp qp pc pn pl qu m e := by
  obtain ⟨h1, h2, h3, h4, h5, h6, h7, h8, h9⟩ := hJ
  refine ⟨ux_FS_ck h1, ux_D_upd h2 (Or.inl rfl), ux_O_ck (ux_O_sub h3 (fun i o hi ho ee => ?_)), ux_Z_upd h4 (Or.inl hs) hd, ux_R_ck h5, h6, h7, ux_L_ck, h9⟩
  by_cases ei : i = p * 4 + d
  · rw [ei, ux_us] at ee; exact absurd ee.symm (ux_nz (by omega) (by omega))
  · rw [ux_un ei] at ee; exact ⟨i, hi, ee⟩
theorem ux_J_link (hJ : ux_J B kd ns np en ds fi ow po st pp qp pc pn pl qu m e) (h0 : 0 < n) (hn : n < 10) (hk : kd n = 1) (hd : d < 10) (hd2 : kd d = 2) (ha : a < 15) (he : en (d * 15 + a) = 0) (hc : ux_cn en d < 6) :
    ux_J B kd (upd ns d (ns d + 1)) np (upd en (d * 15 + a) (nI n)) ds fi ow po st pp qp pc pn pl qu m e := by
  obtain ⟨h1, h2, h3, h4, h5, h6, h7, h8, h9⟩ := hJ
  exact ⟨ux_FS_link h1 h0 hn hk hd hd2 ha he hc, h2, h3, h4, h5, h6, h7, ux_L_en h8 hd ha he, h9⟩
theorem ux_J_rm (hJ : ux_J B kd ns np en ds fi ow po st pp qp pc pn pl qu m e) (h0 : 0 < n) (hn : n < 10) (hk : kd n ≠ 2) (hd : d < 10) (ha : a < 15) (he : en (d * 15 + a) = nI n) (hz : nI (ux_cn en d) = z + 1) :
    ux_J B (ux_ck kd (upd en (d * 15 + a) 0) ds fi) (upd ns d z) np (upd en (d * 15 + a) 0) ds fi ow po st pp qp pc pn pl qu m e := by
  obtain ⟨h1, h2, h3, h4, h5, h6, h7, h8, h9⟩ := hJ
  exact ⟨ux_FS_ck (ux_FS_rm h1 h0 hn hk hd ha he hz), h2, ux_O_ck h3, h4, ux_R_ck h5, h6, h7, ux_L_ck, h9⟩
theorem ux_J_rmd (hJ : ux_J B kd ns np en ds fi ow po st pp qp pc pn pl qu m e) (h0 : 0 < n) (hn : n < 10) (hk : kd n = 2) (hd : d < 10) (ha : a < 15) (he : en (d * 15 + a) = nI n) (hz : nI (ux_cn en d) = z + 1) (hc : ux_cn en n = 0) (hpl : ∀ p, p < 5 → (st p = 1 ∨ st p = 2) → pc p ≠ nI n) :
    ux_J B (ux_ck (upd kd n 0) (upd en (d * 15 + a) 0) ds fi) (upd ns d z) np (upd en (d * 15 + a) 0) ds fi ow po st pp qp pc pn pl qu m e := by
  obtain ⟨h1, h2, h3, h4, h5, h6, h7, h8, h9⟩ := hJ
  refine ⟨ux_FS_ck (ux_FS_rmd h1 h0 hn hk hd ha he hz hc), h2, ux_O_ck (ux_O_new h3 (by rw [hk]; exact ux_n21)), h4, ux_R_ck (ux_R_kd h5 (fun b i hb hs e1 hi e2 => ?_)), h6, h7, ux_L_ck, h9⟩
  rw [ux_un (show i ≠ n from fun z => hpl b hb hs (by rw [← z]; exact e1))]; exact e2
end UX5
end
section
section UX6
variable {ds en kd : Nat → Int32} {x : Int32} {o k n d a : Nat}
theorem ux_V_list (h : ux_V x) : x ∈ ([0, 1, 2, 3, 4, 5, 6, 7, 8, 4096, 4097, 8192, 8193] : List Int32) := by
  rcases h with h | ⟨o, ho, h⟩ | ⟨k, hk, h⟩ | ⟨k, hk, h⟩
  · rw [h]; decide
  · rw [h]
    have : ∀ o, o < 8 → nI (1 + o) ∈ ([0, 1, 2, 3, 4, 5, 6, 7, 8, 4096, 4097, 8192, 8193] : List Int32) := by decide +kernel
    exact this o ho
  · rw [h]
    have : ∀ k, k < 2 → nI (4096 + k) ∈ ([0, 1, 2, 3, 4, 5, 6, 7, 8, 4096, 4097, 8192, 8193] : List Int32) := by decide +kernel
    exact this k hk
  · rw [h]
    have : ∀ k, k < 2 → nI (8192 + k) ∈ ([0, 1, 2, 3, 4, 5, 6, 7, 8, 4096, 4097, 8192, 8193] : List Int32) := by decide +kernel
    exact this k hk
theorem ux_cv_o (h : ux_V x) (ho : o < 8) : ux_cv x = nI (1 + o) ↔ x = nI (1 + o) := by
  have : ∀ x ∈ ([0, 1, 2, 3, 4, 5, 6, 7, 8, 4096, 4097, 8192, 8193] : List Int32), ∀ o, o < 8 → (ux_cv x = nI (1 + o) ↔ x = nI (1 + o)) := by decide +kernel
  exact this x (ux_V_list h) o ho
theorem ux_cv_r (h : ux_V x) (hk : k < 2) : ux_cv x = nI (101 + k) ↔ x = nI (4096 + k) := by
  have : ∀ x ∈ ([0, 1, 2, 3, 4, 5, 6, 7, 8, 4096, 4097, 8192, 8193] : List Int32), ∀ k, k < 2 → (ux_cv x = nI (101 + k) ↔ x = nI (4096 + k)) := by decide +kernel
  exact this x (ux_V_list h) k hk
theorem ux_cv_w (h : ux_V x) (hk : k < 2) : ux_cv x = nI (201 + k) ↔ x = nI (8192 + k) := by
  have : ∀ x ∈ ([0, 1, 2, 3, 4, 5, 6, 7, 8, 4096, 4097, 8192, 8193] : List Int32), ∀ k, k < 2 → (ux_cv x = nI (201 + k) ↔ x = nI (8192 + k)) := by decide +kernel
  exact this x (ux_V_list h) k hk
theorem ux_cv_0 (h : ux_V x) : ux_cv x = 0 ↔ x = 0 := by
  have : ∀ x ∈ ([0, 1, 2, 3, 4, 5, 6, 7, 8, 4096, 4097, 8192, 8193] : List Int32), (ux_cv x = 0 ↔ x = 0) := by decide +kernel
  exact this x (ux_V_list h)
theorem ux_hd_o (hD : ux_D ds) (ho : o < 8) : ux_hd (ux_ED ds) (nI (1 + o)) ↔ ux_hd ds (nI (1 + o)) :=
  ⟨fun ⟨j, hj, e⟩ => ⟨j, hj, (ux_cv_o (hD j hj) ho).mp e⟩, fun ⟨j, hj, e⟩ => ⟨j, hj, (ux_cv_o (hD j hj) ho).mpr e⟩⟩
theorem ux_hd_r (hD : ux_D ds) (hk : k < 2) : ux_hd (ux_ED ds) (nI (101 + k)) ↔ ux_hd ds (nI (4096 + k)) :=
  ⟨fun ⟨j, hj, e⟩ => ⟨j, hj, (ux_cv_r (hD j hj) hk).mp e⟩, fun ⟨j, hj, e⟩ => ⟨j, hj, (ux_cv_r (hD j hj) hk).mpr e⟩⟩
theorem ux_hd_w (hD : ux_D ds) (hk : k < 2) : ux_hd (ux_ED ds) (nI (201 + k)) ↔ ux_hd ds (nI (8192 + k)) :=
  ⟨fun ⟨j, hj, e⟩ => ⟨j, hj, (ux_cv_w (hD j hj) hk).mp e⟩, fun ⟨j, hj, e⟩ => ⟨j, hj, (ux_cv_w (hD j hj) hk).mpr e⟩⟩
/-! names: what an entry names, on both sides -/
theorem ux_nm (hE : ux_E kd en) (hd : d < 10) (ha : a < 15) : (en (d * 15 + a) = 0 ∧ ux_EN en (15 * d + a) = -1) ∨ ∃ n, 0 < n ∧ n < 10 ∧ en (d * 15 + a) = nI n ∧ ux_EN en (15 * d + a) = nI n ∧ kd n ≠ 0 ∧ kd d = 2 := by
  rw [Nat.mul_comm 15 d]
  rcases hE (d * 15 + a) (by omega) with h | ⟨n, n0, n1, n2, n3, n4⟩
  · exact Or.inl ⟨h, ux_EN_0 (by omega) h⟩
  · refine Or.inr ⟨n, n0, n1, n2, ?_, n3, ?_⟩
    · rw [ux_EN_1 (by omega) (by rw [n2]; exact ux_nz n0 (by omega))]; exact n2
    · rw [show (d * 15 + a) / 15 = d by omega] at n4; exact n4
theorem ux_EN_ge (hE : ux_E kd en) (hk : k < 150) : 0 ≤ ux_EN en k ↔ en k ≠ 0 := by
  rcases hE k hk with h | ⟨n, n0, n1, n2, _⟩
  · rw [ux_EN_0 hk h]
    exact ⟨fun z => absurd z (by decide), fun z => absurd h z⟩
  · have : en k ≠ 0 := by rw [n2]; exact ux_nz n0 (by omega)
    rw [ux_EN_1 hk this, n2]
    exact ⟨fun _ => by rw [← n2]; exact this, fun _ => nI_pos' (by omega)⟩
end UX6
end
section
section UX7
variable {rg ds st qp pp f g : Nat → Int32} {p c a b i n : Nat} {x y : Int32}
/-! copies -/
def ux_cw (f g : Nat → Int32) (a b : Nat) : Nat → (Nat → Int32)
  | 0 => f
  | i + 1 => upd (ux_cw f g a b i) (a + i) (g (b + i))
def ux_cs (f : Nat → Int32) (a b : Nat) : Nat → (Nat → Int32)
  | 0 => f
  | i + 1 => upd (ux_cs f a b i) (a + i) (ux_cs f a b i (b + i))
theorem ux_cw_s : ux_cw f g a b (i + 1) = upd (ux_cw f g a b i) (a + i) (g (b + i)) := rfl
theorem ux_cs_s : ux_cs f a b (i + 1) = upd (ux_cs f a b i) (a + i) (ux_cs f a b i (b + i)) := rfl
theorem ux_cs_c4 (h : c ≠ p) : ux_cs f (c * 4) (p * 4) 4 = ux_c4 f c p := by
  show upd (upd (upd (upd f (c * 4 + 0) (f (p * 4 + 0))) (c * 4 + 1) (upd f (c * 4 + 0) (f (p * 4 + 0)) (p * 4 + 1))) (c * 4 + 2) (upd (upd f (c * 4 + 0) (f (p * 4 + 0))) (c * 4 + 1) (upd f (c * 4 + 0) (f (p * 4 + 0)) (p * 4 + 1)) (p * 4 + 2))) (c * 4 + 3) (upd (upd (upd f (c * 4 + 0) (f (p * 4 + 0))) (c * 4 + 1) (upd f (c * 4 + 0) (f (p * 4 + 0)) (p * 4 + 1))) (c * 4 + 2) (upd (upd f (c * 4 + 0) (f (p * 4 + 0))) (c * 4 + 1) (upd f (c * 4 + 0) (f (p * 4 + 0)) (p * 4 + 1)) (p * 4 + 2)) (p * 4 + 3)) = _
  unfold ux_c4
  have e1 : ∀ x, upd f (c * 4 + 0) x (p * 4 + 1) = f (p * 4 + 1) := fun x => ux_un (by omega)
  have e2 : ∀ x y, upd (upd f (c * 4 + 0) x) (c * 4 + 1) y (p * 4 + 2) = f (p * 4 + 2) := fun x y => by rw [ux_un (by omega), ux_un (by omega)]
  have e3 : ∀ x y z, upd (upd (upd f (c * 4 + 0) x) (c * 4 + 1) y) (c * 4 + 2) z (p * 4 + 3) = f (p * 4 + 3) := fun x y z => by rw [ux_un (by omega), ux_un (by omega), ux_un (by omega)]
  rw [e1, e2, e3]
  rfl
theorem ux_ED_c4 : ux_ED (ux_c4 ds c p) = ux_c4 (ux_ED ds) c p := by
  unfold ux_c4
  rw [ux_ED_u, ux_ED_u, ux_ED_u, ux_ED_u]
  rfl
theorem ux_ED_zp : ux_ED (ux_zp ds p) = ux_zp (ux_ED ds) p := by
  unfold ux_zp
  rw [ux_ED_u, ux_ED_u, ux_ED_u, ux_ED_u, ux_cv0]
theorem ux_fkr (h : c ≠ p) (ha : a < 4) : upd (ux_c4 (upd rg (p * 4 + a) x) c p) (p * 4 + a) y = upd (upd (ux_c4 rg c p) (p * 4 + a) y) (c * 4 + a) x := by
  funext j
  by_cases e1 : j = p * 4 + a
  · rw [e1, ux_us, ux_un (by omega), ux_us]
  · rw [ux_un e1]
    rcases ux_c4_or (f := upd rg (p * 4 + a) x) (c := c) (p := p) j with ⟨i, hi, ej, e⟩ | ⟨hj, e⟩
    · rw [e]
      by_cases ei : i = a
      · rw [ei, ux_us]
        rw [ei] at ej
        rw [ej, ux_us]
      · rw [ux_un (by omega), ux_un (by omega), ux_un e1]
        rcases ux_c4_or (f := rg) (c := c) (p := p) j with ⟨i2, hi2, ej2, e2⟩ | ⟨hj2, e2⟩
        · rw [e2]
          exact congrArg rg (by omega)
        · exact absurd ej (hj2 i hi)
    · rw [e, ux_un e1, ux_un (hj a ha), ux_un e1]
      rcases ux_c4_or (f := rg) (c := c) (p := p) j with ⟨i2, hi2, ej2, e2⟩ | ⟨hj2, e2⟩
      · exact absurd ej2 (hj i2 hi2)
      · exact e2.symm
/-! the reference's search for an ended child, from 4 down -/
def ux_ec (st qp : Nat → Int32) (p : Nat) : Nat → Int32
  | 0 => -2
  | n + 1 => if st (4 - n) ≠ 0 ∧ qp (4 - n) = nI p then (if st (4 - n) = 3 then nI (4 - n) else if ux_ec st qp p n = -2 then -1 else ux_ec st qp p n) else ux_ec st qp p n
theorem ux_ec_s : ux_ec st qp p (n + 1) = if st (4 - n) ≠ 0 ∧ qp (4 - n) = nI p then (if st (4 - n) = 3 then nI (4 - n) else if ux_ec st qp p n = -2 then -1 else ux_ec st qp p n) else ux_ec st qp p n := rfl
theorem ux_ec_n : ∀ n, n ≤ 5 → (∀ c, 5 - n ≤ c → c < 5 → ¬ (st c ≠ 0 ∧ qp c = nI p)) → ux_ec st qp p n = -2 := by
  intro n
  induction n with
  | zero => intro _ _; rfl
  | succ n ih =>
    intro hn h
    rw [ux_ec_s, if_neg (h (4 - n) (by omega) (by omega))]
    exact ih (by omega) (fun c h1 h2 => h c (by omega) h2)
theorem ux_ec_l : ∀ n, n ≤ 5 → (∀ c, 5 - n ≤ c → c < 5 → st c ≠ 0 → qp c = nI p → st c ≠ 3) → (∃ c, 5 - n ≤ c ∧ c < 5 ∧ st c ≠ 0 ∧ qp c = nI p) → ux_ec st qp p n = -1 := by
  intro n
  induction n with
  | zero => intro _ _ ⟨c, h1, h2, _⟩; omega
  | succ n ih =>
    intro hn h ⟨c, c1, c2, c3, c4⟩
    rw [ux_ec_s]
    by_cases hc : st (4 - n) ≠ 0 ∧ qp (4 - n) = nI p
    · rw [if_pos hc, if_neg (h (4 - n) (by omega) (by omega) hc.1 hc.2)]
      by_cases he : ∃ c, 5 - n ≤ c ∧ c < 5 ∧ st c ≠ 0 ∧ qp c = nI p
      · rw [ih (by omega) (fun c h1 h2 => h c (by omega) h2) he]
        decide
      · rw [ux_ec_n n (by omega) (fun c h1 h2 h3 => he ⟨c, h1, h2, h3⟩)]
        decide
    · rw [if_neg hc]
      refine ih (by omega) (fun c h1 h2 => h c (by omega) h2) ⟨c, ?_, c2, c3, c4⟩
      by_cases ec : c = 4 - n
      · rw [ec] at c3 c4; exact absurd ⟨c3, c4⟩ hc
      · omega
theorem ux_ec_e : ∀ n, n ≤ 5 → ∀ c, 5 - n ≤ c → c < 5 → st c = 3 → qp c = nI p → (∀ b, 5 - n ≤ b → b < c → ¬ (st b = 3 ∧ qp b = nI p)) → ux_ec st qp p n = nI c := by
  intro n
  induction n with
  | zero => intro _ c h1 h2; omega
  | succ n ih =>
    intro hn c c1 c2 c3 c4 hb
    rw [ux_ec_s]
    by_cases ec : c = 4 - n
    · rw [ec] at c3 c4
      rw [if_pos ⟨by rw [c3]; decide, c4⟩, if_pos c3, ec]
    · have e := ih (by omega) c (by omega) c2 c3 c4 (fun b h1 h2 => hb b (by omega) h2)
      by_cases hc : st (4 - n) ≠ 0 ∧ qp (4 - n) = nI p
      · rw [if_pos hc, if_neg (fun z => hb (4 - n) (by omega) (by omega) ⟨z, hc.2⟩), e, if_neg ?_]
        intro z
        have := nI_pos (n := c) (by omega)
        rw [z] at this
        exact this (by decide)
      · rw [if_neg hc]; exact e
end UX7
end
section
section UX8
variable {ql pr : Int32} {ex : Int64} {kd ns np wo en st pp sp pc pg pn rg ds fi ow po pw pl qu ou : Nat → Int32}
variable {post : Int32 → Prop} {d a n p c k o m : Nat} {x r w : Int32}
theorem ux_c (h : n < 100000) : (nI n).toNatClampNeg = n := nI_clamp (by omega)
/-- nothing is named r in d; n is named r in d -/
def ux_no (en : Nat → Int32) (d : Nat) (r : Int32) : Prop := (∃ a, a < 15 ∧ r = nI a ∧ en (d * 15 + a) = 0) ∨ r < 0 ∨ (¬ r < 0 ∧ nI 15 ≤ r)
def ux_ye (en : Nat → Int32) (d : Nat) (r : Int32) (a n : Nat) : Prop := a < 15 ∧ r = nI a ∧ 0 < n ∧ n < 10 ∧ en (d * 15 + a) = nI n
theorem ux_noye (hE : ux_E kd en) (hd : d < 10) (r : Int32) : ux_no en d r ∨ ∃ a n, ux_ye en d r a n ∧ kd n ≠ 0 ∧ kd d = 2 := by
  rcases ux_rg r 15 (by decide) with ⟨a, ha, e⟩ | h
  · rcases ux_nm hE hd ha with ⟨h, _⟩ | ⟨n, n0, n1, n2, _, n4, n5⟩
    · exact Or.inl (Or.inl ⟨a, ha, e, h⟩)
    · exact Or.inr ⟨a, n, ⟨ha, e, n0, n1, n2⟩, n4, n5⟩
  · exact Or.inl (Or.inr h)
theorem xa_nnA (hd : d < 10) (ha : a < 15) (h : post (en (d * 15 + a))) : wpX_nodeNamed post (ql, pr, ex, kd, ns, np, wo, en, st, pp, sp, pc, pg, pn, rg, ds, fi, ow, po, pw, pl, qu, ou) (nI d) (nI a) := by
  have e : nI d * 15 + nI a = nI (d * 15 + a) := by rw [ux_mul_l, nI_add]
  exact br_f (nI_pos (by omega)) (br_t (nI_lt (b := 15) ha (by decide)) ⟨by rw [e]; exact vp_in_nI (by omega) (by decide), by rw [e, ux_c (by omega)]; exact h⟩)
theorem xa_nnO (hr : r < 0 ∨ (¬ r < 0 ∧ nI 15 ≤ r)) (h : post 0) : wpX_nodeNamed post (ql, pr, ex, kd, ns, np, wo, en, st, pp, sp, pc, pg, pn, rg, ds, fi, ow, po, pw, pl, qu, ou) x r := by
  rcases hr with h1 | ⟨h1, h2⟩
  · exact br_t h1 h
  · exact br_f h1 (br_f (ux_hi h2) h)
theorem xa_nnN (hd : d < 10) (hr : ux_no en d r) (h : post 0) : wpX_nodeNamed post (ql, pr, ex, kd, ns, np, wo, en, st, pp, sp, pc, pg, pn, rg, ds, fi, ow, po, pw, pl, qu, ou) (nI d) r := by
  rcases hr with ⟨a, ha, e, h0⟩ | hr
  · rw [e]; exact xa_nnA hd ha (by rw [h0]; exact h)
  · exact xa_nnO hr h
theorem xa_nnY (hd : d < 10) (hr : ux_ye en d r a n) (h : post (nI n)) : wpX_nodeNamed post (ql, pr, ex, kd, ns, np, wo, en, st, pp, sp, pc, pg, pn, rg, ds, fi, ow, po, pw, pl, qu, ou) (nI d) r := by
  rw [hr.2.1]; exact xa_nnA hd hr.1 (by rw [hr.2.2.2.2]; exact h)
theorem xa_fnN (hd : d < 10) (hr : ux_no en d r) (h0 : kd 0 = 2) (h : post 0) : wpX_fileNamed post (ql, pr, ex, kd, ns, np, wo, en, st, pp, sp, pc, pg, pn, rg, ds, fi, ow, po, pw, pl, qu, ou) (nI d) r := by
  unfold wpX_fileNamed
  refine xa_nnN hd hr ⟨vp_in_iff.mpr (by decide), br_f ?_ h⟩
  show ¬ kd 0 = 1
  rw [h0]; decide
theorem xa_fnY (hd : d < 10) (hr : ux_ye en d r a n) (hk : kd n = 1) (h : post (nI n)) : wpX_fileNamed post (ql, pr, ex, kd, ns, np, wo, en, st, pp, sp, pc, pg, pn, rg, ds, fi, ow, po, pw, pl, qu, ou) (nI d) r := by
  unfold wpX_fileNamed
  exact xa_nnY hd hr ⟨vp_in_nI hr.2.2.2.1 (by decide), br_t (by rw [ux_c (by have := hr.2.2.2.1; omega)]; exact hk) h⟩
theorem xa_fnD (hd : d < 10) (hr : ux_ye en d r a n) (hk : kd n ≠ 1) (h : post 0) : wpX_fileNamed post (ql, pr, ex, kd, ns, np, wo, en, st, pp, sp, pc, pg, pn, rg, ds, fi, ow, po, pw, pl, qu, ou) (nI d) r := by
  unfold wpX_fileNamed
  exact xa_nnY hd hr ⟨vp_in_nI hr.2.2.2.1 (by decide), br_f (by rw [ux_c (by have := hr.2.2.2.1; omega)]; exact hk) h⟩
/-! searches: a step over what isn't it -/
theorem xs_fn : ∀ d i f, i + d ≤ 10 → (∀ j, i ≤ j → j < i + d → kd j ≠ 0) → wX_freeNode_2 post ql pr ex kd ns np wo en st pp sp pc pg pn rg ds fi ow po pw pl qu ou f (nI (i + d)) → wX_freeNode_2 post ql pr ex kd ns np wo en st pp sp pc pg pn rg ds fi ow po pw pl qu ou (f + d) (nI i) := by
  intro d
  induction d with
  | zero => intro i f _ _ h; exact h
  | succ d ih =>
    intro i f hi hj h
    refine br_f (nI_ge (b := 10) (by omega) (by decide)) ⟨vp_in_nI (by omega) (by decide), br_f (by rw [ux_c (by omega)]; exact hj i (by omega) (by omega)) (nm_r (nI_1 i) ?_)⟩
    exact ih (i + 1) f (by omega) (fun j h1 h2 => hj j (by omega) (by omega)) (by rw [show i + 1 + d = i + (d + 1) by omega]; exact h)
theorem xa_fr (hn : n < 10) (h0 : kd n = 0) (hj : ∀ j, j < n → kd j ≠ 0) (h : post (nI n)) : wpX_freeNode post (ql, pr, ex, kd, ns, np, wo, en, st, pp, sp, pc, pg, pn, rg, ds, fi, ow, po, pw, pl, qu, ou) := by
  refine ⟨1 + n, xs_fn n 0 1 (by omega) (fun j _ h2 => hj j (by omega)) ?_⟩
  rw [Nat.zero_add]
  exact br_f (nI_ge (b := 10) (by omega) (by decide)) ⟨vp_in_nI (by omega) (by decide), br_t (by rw [ux_c (by omega)]; exact h0) h⟩
theorem xa_fr0 (hj : ∀ j, j < 10 → kd j ≠ 0) (h : post 0) : wpX_freeNode post (ql, pr, ex, kd, ns, np, wo, en, st, pp, sp, pc, pg, pn, rg, ds, fi, ow, po, pw, pl, qu, ou) := by
  refine ⟨1 + 10, xs_fn 10 0 1 (by omega) (fun j _ h2 => hj j (by omega)) ?_⟩
  exact br_t (by decide) h
theorem xs_fp : ∀ d i f, i + d ≤ 5 → (∀ j, i ≤ j → j < i + d → st j ≠ 0) → wX_freeProcess_2 post ql pr ex kd ns np wo en st pp sp pc pg pn rg ds fi ow po pw pl qu ou f (nI (i + d)) → wX_freeProcess_2 post ql pr ex kd ns np wo en st pp sp pc pg pn rg ds fi ow po pw pl qu ou (f + d) (nI i) := by
  intro d
  induction d with
  | zero => intro i f _ _ h; exact h
  | succ d ih =>
    intro i f hi hj h
    refine br_f (nI_ge (b := 5) (by omega) (by decide)) ⟨vp_in_nI (by omega) (by decide), br_f (by rw [ux_c (by omega)]; exact hj i (by omega) (by omega)) (nm_r (nI_1 i) ?_)⟩
    exact ih (i + 1) f (by omega) (fun j h1 h2 => hj j (by omega) (by omega)) (by rw [show i + 1 + d = i + (d + 1) by omega]; exact h)
theorem xa_fp (hn : p < 5) (h0 : st p = 0) (hj : ∀ j, j < p → st j ≠ 0) (h : post (nI p)) : wpX_freeProcess post (ql, pr, ex, kd, ns, np, wo, en, st, pp, sp, pc, pg, pn, rg, ds, fi, ow, po, pw, pl, qu, ou) := by
  refine ⟨1 + p, xs_fp p 0 1 (by omega) (fun j _ h2 => hj j (by omega)) ?_⟩
  rw [Nat.zero_add]
  exact br_f (nI_ge (b := 5) (by omega) (by decide)) ⟨vp_in_nI (by omega) (by decide), br_t (by rw [ux_c (by omega)]; exact h0) h⟩
theorem xa_fp0 (hj : ∀ j, j < 5 → st j ≠ 0) (h : post (-1)) : wpX_freeProcess post (ql, pr, ex, kd, ns, np, wo, en, st, pp, sp, pc, pg, pn, rg, ds, fi, ow, po, pw, pl, qu, ou) := by
  refine ⟨1 + 5, xs_fp 5 0 1 (by omega) (fun j _ h2 => hj j (by omega)) ?_⟩
  exact br_t (by decide) h
theorem xs_ih : ∀ d i f, i + d ≤ 20 → (∀ j, i ≤ j → j < i + d → ds j ≠ w) → wX_isHeld_2 post w ql pr ex kd ns np wo en st pp sp pc pg pn rg ds fi ow po pw pl qu ou f (nI (i + d)) → wX_isHeld_2 post w ql pr ex kd ns np wo en st pp sp pc pg pn rg ds fi ow po pw pl qu ou (f + d) (nI i) := by
  intro d
  induction d with
  | zero => intro i f _ _ h; exact h
  | succ d ih =>
    intro i f hi hj h
    refine br_f (nI_ge (b := 20) (by omega) (by decide)) ⟨vp_in_nI (by omega) (by decide), br_f (by rw [ux_c (by omega)]; exact hj i (by omega) (by omega)) (nm_r (nI_1 i) ?_)⟩
    exact ih (i + 1) f (by omega) (fun j h1 h2 => hj j (by omega) (by omega)) (by rw [show i + 1 + d = i + (d + 1) by omega]; exact h)
theorem xa_ih1 (hh : ux_hd ds w) (h : post 1) : wpX_isHeld post (ql, pr, ex, kd, ns, np, wo, en, st, pp, sp, pc, pg, pn, rg, ds, fi, ow, po, pw, pl, qu, ou) w := by
  rcases ux_ls (fun j => ds j = w) 20 with ⟨i, hi, e, hj⟩ | hno
  · refine ⟨1 + i, xs_ih i 0 1 (by omega) (fun j _ h2 => hj j (by omega)) ?_⟩
    rw [Nat.zero_add]
    exact br_f (nI_ge (b := 20) (by omega) (by decide)) ⟨vp_in_nI (by omega) (by decide), br_t (by rw [ux_c (by omega)]; exact e) h⟩
  · obtain ⟨j, hj, e⟩ := hh
    exact absurd e (hno j hj)
theorem xa_ih0 (hh : ¬ ux_hd ds w) (h : post 0) : wpX_isHeld post (ql, pr, ex, kd, ns, np, wo, en, st, pp, sp, pc, pg, pn, rg, ds, fi, ow, po, pw, pl, qu, ou) w := by
  refine ⟨1 + 20, xs_ih 20 0 1 (by omega) (fun j _ h2 e => hh ⟨j, by omega, e⟩) ?_⟩
  exact br_t (by decide) h
theorem xs_nd (hp : p < 5) : ∀ d i f, i + d ≤ 4 → (∀ j, i ≤ j → j < i + d → ds (p * 4 + j) ≠ 0) → wX_newDescriptor_2 post (nI p) ql pr ex kd ns np wo en st pp sp pc pg pn rg ds fi ow po pw pl qu ou f (nI (i + d)) → wX_newDescriptor_2 post (nI p) ql pr ex kd ns np wo en st pp sp pc pg pn rg ds fi ow po pw pl qu ou (f + d) (nI i) := by
  intro d
  induction d with
  | zero => intro i f _ _ h; exact h
  | succ d ih =>
    intro i f hi hj h
    have e : nI p * 4 + nI i = nI (p * 4 + i) := by rw [ux_mul_l, nI_add]
    refine br_f (nI_ge (b := 4) (by omega) (by decide)) ⟨by rw [e]; exact vp_in_nI (by omega) (by decide), br_f (by rw [e, ux_c (by omega)]; exact hj i (by omega) (by omega)) (nm_r (nI_1 i) ?_)⟩
    exact ih (i + 1) f (by omega) (fun j h1 h2 => hj j (by omega) (by omega)) (by rw [show i + 1 + d = i + (d + 1) by omega]; exact h)
/-- the first descriptor of p from a on that is nothing is c; there is none -/
def ux_fd (ds : Nat → Int32) (p a c : Nat) : Prop := a ≤ c ∧ c < 4 ∧ ds (p * 4 + c) = 0 ∧ ∀ j, a ≤ j → j < c → ds (p * 4 + j) ≠ 0
def ux_nf (ds : Nat → Int32) (p a : Nat) : Prop := a ≤ 4 ∧ ∀ j, a ≤ j → j < 4 → ds (p * 4 + j) ≠ 0
theorem ux_fdnf (ds : Nat → Int32) (p a : Nat) (ha : a ≤ 4) : (∃ c, ux_fd ds p a c) ∨ ux_nf ds p a := by
  rcases ux_ls (fun j => a ≤ j ∧ ds (p * 4 + j) = 0) 4 with ⟨i, hi, e, hj⟩ | hno
  · exact Or.inl ⟨i, e.1, hi, e.2, fun j h1 h2 h3 => hj j h2 ⟨h1, h3⟩⟩
  · exact Or.inr ⟨ha, fun j h1 h2 h3 => hno j h2 ⟨h1, h3⟩⟩
theorem xa_nd (hp : p < 5) (hf : ux_fd ds p a c) (h : post (nI c)) : wpX_newDescriptor post (ql, pr, ex, kd, ns, np, wo, en, st, pp, sp, pc, pg, pn, rg, ds, fi, ow, po, pw, pl, qu, ou) (nI p) (nI a) := by
  obtain ⟨h1, h2, h3, h4⟩ := hf
  have e : nI p * 4 + nI c = nI (p * 4 + c) := by rw [ux_mul_l, nI_add]
  refine ⟨1 + (c - a), xs_nd hp (c - a) a 1 (by omega) (fun j g1 g2 => h4 j g1 (by omega)) ?_⟩
  rw [show a + (c - a) = c by omega]
  exact br_f (nI_ge (b := 4) (by omega) (by decide)) ⟨by rw [e]; exact vp_in_nI (by omega) (by decide), br_t (by rw [e, ux_c (by omega)]; exact h3) h⟩
theorem xa_nd0 (hp : p < 5) (hf : ux_nf ds p a) (h : post (-1)) : wpX_newDescriptor post (ql, pr, ex, kd, ns, np, wo, en, st, pp, sp, pc, pg, pn, rg, ds, fi, ow, po, pw, pl, qu, ou) (nI p) (nI a) := by
  have ha := hf.1
  refine ⟨1 + (4 - a), xs_nd hp (4 - a) a 1 (by omega) (fun j g1 g2 => hf.2 j g1 (by omega)) ?_⟩
  rw [show a + (4 - a) = 4 by omega]
  exact br_t (by decide) h
theorem xs_fo : ∀ d i f, i + d ≤ 8 → (∀ j, i ≤ j → j < i + d → ux_hd ds (nI (1 + j))) → wX_freeOpening_2 post ql pr ex kd ns np wo en st pp sp pc pg pn rg ds fi ow po pw pl qu ou f (nI (i + d)) → wX_freeOpening_2 post ql pr ex kd ns np wo en st pp sp pc pg pn rg ds fi ow po pw pl qu ou (f + d) (nI i) := by
  intro d
  induction d with
  | zero => intro i f _ _ h; exact h
  | succ d ih =>
    intro i f hi hj h
    refine br_f (nI_ge (b := 8) (by omega) (by decide)) ?_
    rw [ux_l_add]
    refine xa_ih1 (hj i (by omega) (by omega)) (br_f (by decide) (nm_r (nI_1 i) ?_))
    exact ih (i + 1) f (by omega) (fun j h1 h2 => hj j (by omega) (by omega)) (by rw [show i + 1 + d = i + (d + 1) by omega]; exact h)
theorem xa_fo (ho : o < 8) (h0 : ¬ ux_hd ds (nI (1 + o))) (hj : ∀ j, j < o → ux_hd ds (nI (1 + j))) (h : post (nI o)) : wpX_freeOpening post (ql, pr, ex, kd, ns, np, wo, en, st, pp, sp, pc, pg, pn, rg, ds, fi, ow, po, pw, pl, qu, ou) := by
  refine ⟨1 + o, xs_fo o 0 1 (by omega) (fun j _ h2 => hj j (by omega)) ?_⟩
  rw [Nat.zero_add]
  refine br_f (nI_ge (b := 8) (by omega) (by decide)) ?_
  rw [ux_l_add]
  exact xa_ih0 h0 (br_t rfl h)
theorem xa_fo0 (hj : ∀ j, j < 8 → ux_hd ds (nI (1 + j))) (h : post (-1)) : wpX_freeOpening post (ql, pr, ex, kd, ns, np, wo, en, st, pp, sp, pc, pg, pn, rg, ds, fi, ow, po, pw, pl, qu, ou) := by
  refine ⟨1 + 8, xs_fo 8 0 1 (by omega) (fun j _ h2 => hj j (by omega)) ?_⟩
  exact br_t (by decide) h
end UX8
end
section
section UX9
variable {ql pr go : Int32} {ex : Int64} {kd ns le wo en et np st qp sp pn pg rg ee ds pc fi ow po pl pw qu ou : Nat → Int32}
variable {post : Int32 → Prop} {d a n p c k o m : Nat} {x r w lo hi : Int32}
theorem ux_gt {x : Int32} {n : Nat} (hn : n + 1 < 2 ^ 31) (h : nI (n + 1) ≤ x) : nI n < x := Int32.not_le.mp (ux_hi1 hn h)
theorem ya_inT (h1 : ¬ x < lo) (h2 : ¬ hi < x) (h : post 1) : wpY_in post (ql, ex, pr, go, kd, le, wo, et, np, st, qp, sp, pn, pg, rg, ee, pc, fi, ow, po, pl, pw, qu, ou) x lo hi := br_f h1 (br_f h2 h)
theorem ya_inF (h1 : x < lo ∨ hi < x) (h : post 0) : wpY_in post (ql, ex, pr, go, kd, le, wo, et, np, st, qp, sp, pn, pg, rg, ee, pc, fi, ow, po, pl, pw, qu, ou) x lo hi := by
  by_cases h2 : x < lo
  · exact br_t h2 h
  · rcases h1 with h1 | h1
    · exact absurd h1 h2
    · exact br_f h2 (br_t h1 h)
theorem ya_inN {b e : Nat} (h1 : b ≤ a) (h2 : a ≤ e) (he : e < 100000) (h : post 1) : wpY_in post (ql, ex, pr, go, kd, le, wo, et, np, st, qp, sp, pn, pg, rg, ee, pc, fi, ow, po, pl, pw, qu, ou) (nI a) (nI b) (nI e) :=
  ya_inT (nI_nlt h1 (by omega)) (nI_nlt h2 (by omega)) h
theorem ya_inO {b e : Nat} (h1 : a < b ∨ e < a) (ha : a < 100000) (hb : b < 100000) (h : post 0) : wpY_in post (ql, ex, pr, go, kd, le, wo, et, np, st, qp, sp, pn, pg, rg, ee, pc, fi, ow, po, pl, pw, qu, ou) (nI a) (nI b) (nI e) := by
  rcases h1 with h1 | h1
  · exact ya_inF (Or.inl (nI_lt h1 (by omega))) h
  · exact ya_inF (Or.inr (nI_lt h1 (by omega))) h
theorem ya_inR (n : Nat) (hn : n + 1 < 100000) (hr : r < 0 ∨ (¬ r < 0 ∧ nI (n + 1) ≤ r)) (h : post 0) : wpY_in post (ql, ex, pr, go, kd, le, wo, et, np, st, qp, sp, pn, pg, rg, ee, pc, fi, ow, po, pl, pw, qu, ou) r 0 (nI n) := by
  rcases hr with h1 | ⟨_, h2⟩
  · exact ya_inF (Or.inl h1) h
  · exact ya_inF (Or.inr (ux_gt (by omega) h2)) h
theorem ya_nmA (hd : d < 10) (ha : a < 15) (h : post (et (15 * d + a))) : wpY_named post (ql, ex, pr, go, kd, le, wo, et, np, st, qp, sp, pn, pg, rg, ee, pc, fi, ow, po, pl, pw, qu, ou) (nI d) (nI a) := by
  unfold wpY_named
  have e : 15 * nI d + nI a = nI (15 * d + a) := by rw [ux_l_mul, nI_add]
  refine ya_inN (b := 0) (e := 14) (by omega) (by omega) (by omega) (br_f (by decide) ⟨?_, ?_⟩)
  · rw [e]; exact vp_in_nI (by omega) (by decide)
  · rw [e, ux_c (by omega)]; exact h
theorem ya_nmN (hd : d < 10) (hr : ux_no en d r) (h : post (-1)) : wpY_named post (ql, ex, pr, go, kd, le, wo, ux_EN en, np, st, qp, sp, pn, pg, rg, ee, pc, fi, ow, po, pl, pw, qu, ou) (nI d) r := by
  rcases hr with ⟨a, ha, e, h0⟩ | hr
  · rw [e]
    refine ya_nmA hd ha ?_
    rw [Nat.mul_comm 15 d, ux_EN_0 (by omega) h0]; exact h
  · unfold wpY_named
    exact ya_inR 14 (by omega) hr (br_t rfl h)
theorem ya_nmY (hd : d < 10) (hr : ux_ye en d r a n) (h : post (nI n)) : wpY_named post (ql, ex, pr, go, kd, le, wo, ux_EN en, np, st, qp, sp, pn, pg, rg, ee, pc, fi, ow, po, pl, pw, qu, ou) (nI d) r := by
  obtain ⟨h1, h2, h3, h4, h5⟩ := hr
  rw [h2]
  refine ya_nmA hd h1 ?_
  rw [Nat.mul_comm 15 d, ux_EN_1 (by omega) (by rw [h5]; exact ux_nz h3 (by omega)), h5]; exact h
/-! searches -/
theorem ys_fn : ∀ d i f, i + d ≤ 10 → (∀ j, i ≤ j → j < i + d → kd j ≠ 0) → wY_smallestNode_2 post ql ex pr go kd le wo et np st qp sp pn pg rg ee pc fi ow po pl pw qu ou f (nI (i + d)) → wY_smallestNode_2 post ql ex pr go kd le wo et np st qp sp pn pg rg ee pc fi ow po pl pw qu ou (f + d) (nI i) := by
  intro d
  induction d with
  | zero => intro i f _ _ h; exact h
  | succ d ih =>
    intro i f hi hj h
    refine br_f (nI_ge (b := 10) (by omega) (by decide)) ⟨vp_in_nI (by omega) (by decide), br_f (by rw [ux_c (by omega)]; exact hj i (by omega) (by omega)) (nm_r (nI_1 i) ?_)⟩
    exact ih (i + 1) f (by omega) (fun j h1 h2 => hj j (by omega) (by omega)) (by rw [show i + 1 + d = i + (d + 1) by omega]; exact h)
theorem ya_fr (hn : n < 10) (h0 : kd n = 0) (hj : ∀ j, j < n → kd j ≠ 0) (h : post (nI n)) : wpY_smallestNode post (ql, ex, pr, go, kd, le, wo, et, np, st, qp, sp, pn, pg, rg, ee, pc, fi, ow, po, pl, pw, qu, ou) := by
  refine ⟨1 + n, ys_fn n 0 1 (by omega) (fun j _ h2 => hj j (by omega)) ?_⟩
  rw [Nat.zero_add]
  exact br_f (nI_ge (b := 10) (by omega) (by decide)) ⟨vp_in_nI (by omega) (by decide), br_t (by rw [ux_c (by omega)]; exact h0) h⟩
theorem ya_fr0 (hj : ∀ j, j < 10 → kd j ≠ 0) (h : post (-1)) : wpY_smallestNode post (ql, ex, pr, go, kd, le, wo, et, np, st, qp, sp, pn, pg, rg, ee, pc, fi, ow, po, pl, pw, qu, ou) := by
  refine ⟨1 + 10, ys_fn 10 0 1 (by omega) (fun j _ h2 => hj j (by omega)) ?_⟩
  exact br_t (by decide) h
theorem ys_fp : ∀ d i f, i + d ≤ 5 → (∀ j, i ≤ j → j < i + d → st j ≠ 0) → wY_smallestProcess_2 post ql ex pr go kd le wo et np st qp sp pn pg rg ee pc fi ow po pl pw qu ou f (nI (i + d)) → wY_smallestProcess_2 post ql ex pr go kd le wo et np st qp sp pn pg rg ee pc fi ow po pl pw qu ou (f + d) (nI i) := by
  intro d
  induction d with
  | zero => intro i f _ _ h; exact h
  | succ d ih =>
    intro i f hi hj h
    refine br_f (nI_ge (b := 5) (by omega) (by decide)) ⟨vp_in_nI (by omega) (by decide), br_f (by rw [ux_c (by omega)]; exact hj i (by omega) (by omega)) (nm_r (nI_1 i) ?_)⟩
    exact ih (i + 1) f (by omega) (fun j h1 h2 => hj j (by omega) (by omega)) (by rw [show i + 1 + d = i + (d + 1) by omega]; exact h)
theorem ya_fp (hn : p < 5) (h0 : st p = 0) (hj : ∀ j, j < p → st j ≠ 0) (h : post (nI p)) : wpY_smallestProcess post (ql, ex, pr, go, kd, le, wo, et, np, st, qp, sp, pn, pg, rg, ee, pc, fi, ow, po, pl, pw, qu, ou) := by
  refine ⟨1 + p, ys_fp p 0 1 (by omega) (fun j _ h2 => hj j (by omega)) ?_⟩
  rw [Nat.zero_add]
  exact br_f (nI_ge (b := 5) (by omega) (by decide)) ⟨vp_in_nI (by omega) (by decide), br_t (by rw [ux_c (by omega)]; exact h0) h⟩
theorem ya_fp0 (hj : ∀ j, j < 5 → st j ≠ 0) (h : post (-1)) : wpY_smallestProcess post (ql, ex, pr, go, kd, le, wo, et, np, st, qp, sp, pn, pg, rg, ee, pc, fi, ow, po, pl, pw, qu, ou) := by
  refine ⟨1 + 5, ys_fp 5 0 1 (by omega) (fun j _ h2 => hj j (by omega)) ?_⟩
  exact br_t (by decide) h
theorem ys_ih : ∀ d i f, i + d ≤ 20 → (∀ j, i ≤ j → j < i + d → ee j ≠ w) → wY_has_2 post w ql ex pr go kd le wo et np st qp sp pn pg rg ee pc fi ow po pl pw qu ou f (nI (i + d)) → wY_has_2 post w ql ex pr go kd le wo et np st qp sp pn pg rg ee pc fi ow po pl pw qu ou (f + d) (nI i) := by
  intro d
  induction d with
  | zero => intro i f _ _ h; exact h
  | succ d ih =>
    intro i f hi hj h
    refine br_f (nI_ge (b := 20) (by omega) (by decide)) ⟨vp_in_nI (by omega) (by decide), br_f (by rw [ux_c (by omega)]; exact hj i (by omega) (by omega)) (nm_r (nI_1 i) ?_)⟩
    exact ih (i + 1) f (by omega) (fun j h1 h2 => hj j (by omega) (by omega)) (by rw [show i + 1 + d = i + (d + 1) by omega]; exact h)
theorem ya_h1 (hh : ux_hd ee w) (h : post 1) : wpY_has post (ql, ex, pr, go, kd, le, wo, et, np, st, qp, sp, pn, pg, rg, ee, pc, fi, ow, po, pl, pw, qu, ou) w := by
  rcases ux_ls (fun j => ee j = w) 20 with ⟨i, hi, e, hj⟩ | hno
  · refine ⟨1 + i, ys_ih i 0 1 (by omega) (fun j _ h2 => hj j (by omega)) ?_⟩
    rw [Nat.zero_add]
    exact br_f (nI_ge (b := 20) (by omega) (by decide)) ⟨vp_in_nI (by omega) (by decide), br_t (by rw [ux_c (by omega)]; exact e) h⟩
  · obtain ⟨j, hj, e⟩ := hh
    exact absurd e (hno j hj)
theorem ya_h0 (hh : ¬ ux_hd ee w) (h : post 0) : wpY_has post (ql, ex, pr, go, kd, le, wo, et, np, st, qp, sp, pn, pg, rg, ee, pc, fi, ow, po, pl, pw, qu, ou) w := by
  refine ⟨1 + 20, ys_ih 20 0 1 (by omega) (fun j _ h2 e => hh ⟨j, by omega, e⟩) ?_⟩
  exact br_t (by decide) h
theorem ys_nd (hp : p < 5) : ∀ d i f, i + d ≤ 4 → (∀ j, i ≤ j → j < i + d → ee (4 * p + j) ≠ 0) → wY_newDescriptor_2 post (nI p) ql ex pr go kd le wo et np st qp sp pn pg rg ee pc fi ow po pl pw qu ou f (nI (i + d)) → wY_newDescriptor_2 post (nI p) ql ex pr go kd le wo et np st qp sp pn pg rg ee pc fi ow po pl pw qu ou (f + d) (nI i) := by
  intro d
  induction d with
  | zero => intro i f _ _ h; exact h
  | succ d ih =>
    intro i f hi hj h
    have e : 4 * nI p + nI i = nI (4 * p + i) := by rw [ux_l_mul, nI_add]
    refine br_f (nI_ge (b := 4) (by omega) (by decide)) ⟨by rw [e]; exact vp_in_nI (by omega) (by decide), br_f (by rw [e, ux_c (by omega)]; exact hj i (by omega) (by omega)) (nm_r (nI_1 i) ?_)⟩
    exact ih (i + 1) f (by omega) (fun j h1 h2 => hj j (by omega) (by omega)) (by rw [show i + 1 + d = i + (d + 1) by omega]; exact h)
theorem ux_ED0 (hD : ux_D ds) (hk : k < 20) : ux_ED ds k = 0 ↔ ds k = 0 := ux_cv_0 (hD k hk)
theorem ya_nd (hD : ux_D ds) (hp : p < 5) (hf : ux_fd ds p a c) (h : post (nI c)) : wpY_newDescriptor post (ql, ex, pr, go, kd, le, wo, et, np, st, qp, sp, pn, pg, rg, ux_ED ds, pc, fi, ow, po, pl, pw, qu, ou) (nI p) (nI a) := by
  obtain ⟨h1, h2, h3, h4⟩ := hf
  have e : 4 * nI p + nI c = nI (4 * p + c) := by rw [ux_l_mul, nI_add]
  refine ⟨1 + (c - a), ys_nd hp (c - a) a 1 (by omega) (fun j g1 g2 => ?_) ?_⟩
  · rw [Nat.mul_comm 4 p]
    exact fun z => h4 j g1 (by omega) ((ux_ED0 hD (by omega)).mp z)
  · rw [show a + (c - a) = c by omega]
    refine br_f (nI_ge (b := 4) (by omega) (by decide)) ⟨by rw [e]; exact vp_in_nI (by omega) (by decide), br_t ?_ h⟩
    rw [e, ux_c (by omega), Nat.mul_comm 4 p]; exact (ux_ED0 hD (by omega)).mpr h3
theorem ya_nd0 (hD : ux_D ds) (hp : p < 5) (hf : ux_nf ds p a) (h : post (-1)) : wpY_newDescriptor post (ql, ex, pr, go, kd, le, wo, et, np, st, qp, sp, pn, pg, rg, ux_ED ds, pc, fi, ow, po, pl, pw, qu, ou) (nI p) (nI a) := by
  have ha := hf.1
  refine ⟨1 + (4 - a), ys_nd hp (4 - a) a 1 (by omega) (fun j g1 g2 => ?_) ?_⟩
  · rw [Nat.mul_comm 4 p]
    exact fun z => hf.2 j g1 (by omega) ((ux_ED0 hD (by omega)).mp z)
  · rw [show a + (4 - a) = 4 by omega]
    exact br_t (by decide) h
theorem ys_fo (hD : ux_D ds) : ∀ d i f, i + d ≤ 8 → (∀ j, i ≤ j → j < i + d → ux_hd ds (nI (1 + j))) → wY_smallestOpening_2 post ql ex pr go kd le wo et np st qp sp pn pg rg (ux_ED ds) pc fi ow po pl pw qu ou f (nI (i + d)) → wY_smallestOpening_2 post ql ex pr go kd le wo et np st qp sp pn pg rg (ux_ED ds) pc fi ow po pl pw qu ou (f + d) (nI i) := by
  intro d
  induction d with
  | zero => intro i f _ _ h; exact h
  | succ d ih =>
    intro i f hi hj h
    refine br_f (nI_ge (b := 8) (by omega) (by decide)) ?_
    rw [ux_l_add]
    refine ya_h1 ((ux_hd_o hD (by omega)).mpr (hj i (by omega) (by omega))) (br_f (by decide) (nm_r (nI_1 i) ?_))
    exact ih (i + 1) f (by omega) (fun j h1 h2 => hj j (by omega) (by omega)) (by rw [show i + 1 + d = i + (d + 1) by omega]; exact h)
theorem ya_fo (hD : ux_D ds) (ho : o < 8) (h0 : ¬ ux_hd ds (nI (1 + o))) (hj : ∀ j, j < o → ux_hd ds (nI (1 + j))) (h : post (nI o)) : wpY_smallestOpening post (ql, ex, pr, go, kd, le, wo, et, np, st, qp, sp, pn, pg, rg, ux_ED ds, pc, fi, ow, po, pl, pw, qu, ou) := by
  refine ⟨1 + o, ys_fo hD o 0 1 (by omega) (fun j _ h2 => hj j (by omega)) ?_⟩
  rw [Nat.zero_add]
  refine br_f (nI_ge (b := 8) (by omega) (by decide)) ?_
  rw [ux_l_add]
  exact ya_h0 (fun z => h0 ((ux_hd_o hD ho).mp z)) (br_t rfl h)
theorem ya_fo0 (hD : ux_D ds) (hj : ∀ j, j < 8 → ux_hd ds (nI (1 + j))) (h : post (-1)) : wpY_smallestOpening post (ql, ex, pr, go, kd, le, wo, et, np, st, qp, sp, pn, pg, rg, ux_ED ds, pc, fi, ow, po, pl, pw, qu, ou) := by
  refine ⟨1 + 8, ys_fo hD 8 0 1 (by omega) (fun j _ h2 => hj j (by omega)) ?_⟩
  exact br_t (by decide) h
/-! counting -/
theorem ys_eo (hE : ux_E kd en) (hd : d < 10) (h : post (nI (ux_cn en d))) : ∀ r i, i + r = 15 → wY_entriesOf_7 post (nI d) ql ex pr go kd le wo (ux_EN en) np st qp sp pn pg rg ee pc fi ow po pl pw qu ou (r + 1) (nI (ux_ct (fun j => en (d * 15 + j)) i)) (nI (15 * d + i)) := by
  have e : 15 * nI d + 15 = nI (15 * d + 15) := by rw [ux_l_mul, ux_add_l]
  intro r
  induction r with
  | zero =>
    intro i hi
    have ei : i = 15 := by omega
    subst ei
    exact br_t (by rw [e]; exact nI_le (Nat.le_refl _) (by omega)) h
  | succ r ih =>
    intro i hi
    refine br_f (by rw [e]; exact nI_ge (by omega) (by omega)) ⟨vp_in_nI (by omega) (by decide), ?_⟩
    rw [ux_c (by omega)]
    have H := ih (i + 1) (by omega)
    rw [ux_ct_s] at H
    by_cases hz : en (d * 15 + i) = 0
    · rw [if_pos hz] at H
      refine br_t ?_ (nm_r (nI_1 _) H)
      rw [Nat.mul_comm 15 d, ux_EN_0 (by omega) hz]; decide
    · rw [if_neg hz] at H
      refine br_f ?_ (nm_r (nI_1 _) (nm_r (nI_1 _) H))
      exact Int32.not_lt.mpr (by rw [Nat.mul_comm 15 d]; exact (ux_EN_ge hE (by omega)).mpr hz)
theorem ya_eo (hE : ux_E kd en) (hd : d < 10) (h : post (nI (ux_cn en d))) : wpY_entriesOf post (ql, ex, pr, go, kd, le, wo, ux_EN en, np, st, qp, sp, pn, pg, rg, ee, pc, fi, ow, po, pl, pw, qu, ou) (nI d) := by
  unfold wpY_entriesOf
  refine nm_r (ux_l_mul d 15) ⟨16, ?_⟩
  exact ys_eo hE hd h 15 0 (by omega)
/-! a child -/
theorem ys_ec (hp : p < 5) (h : post (ux_ec st qp p 5)) : ∀ r n, r + n = 5 → wY_endedChild_5 post (nI p) ql ex pr go kd le wo et np st qp sp pn pg rg ee pc fi ow po pl pw qu ou (r + 1) (ux_ec st qp p n) (if r = 0 then -1 else nI (r - 1)) := by
  intro r
  induction r with
  | zero =>
    intro n hn
    have en : n = 5 := by omega
    subst en
    exact br_t (by decide) h
  | succ r ih =>
    intro n hn
    have H := ih (n + 1) (by omega)
    have e4 : 4 - n = r := by omega
    rw [ux_ec_s, e4] at H
    have ix : nI r + (-1) = if r = 0 then -1 else nI (r - 1) := by
      by_cases hr : r = 0
      · rw [hr]; decide
      · rw [if_neg hr]
        obtain ⟨s, rfl⟩ : ∃ s, r = s + 1 := ⟨r - 1, by omega⟩
        exact ux_m1 s
    rw [if_neg (by omega : ¬ r + 1 = 0), Nat.add_sub_cancel]
    have cl : (nI r).toNatClampNeg = r := ux_c (by omega)
    refine br_f (nI_pos (by omega)) ⟨vp_in_nI (by omega) (by decide), ?_⟩
    rw [cl]
    by_cases h0 : st r = 0
    · rw [if_neg (fun z => z.1 h0)] at H
      exact br_t h0 (nm_r ix H)
    · refine br_f h0 ⟨vp_in_nI (by omega) (by decide), ?_⟩
      by_cases hq : qp r = nI p
      · rw [if_pos ⟨h0, hq⟩] at H
        refine br_t hq ⟨vp_in_nI (by omega) (by decide), ?_⟩
        by_cases h3 : st r = 3
        · rw [if_pos h3] at H
          exact br_t h3 (nm_r ix H)
        · rw [if_neg h3] at H
          refine br_f h3 ?_
          by_cases h2 : ux_ec st qp p n = -2
          · rw [if_pos h2] at H
            exact br_t h2 (nm_r ix H)
          · rw [if_neg h2] at H
            exact br_f h2 (nm_r ix H)
      · rw [if_neg (fun z => hq z.2)] at H
        exact br_f hq (nm_r ix H)
theorem ya_ec (hp : p < 5) (h : post (ux_ec st qp p 5)) : wpY_endedChild post (ql, ex, pr, go, kd, le, wo, et, np, st, qp, sp, pn, pg, rg, ee, pc, fi, ow, po, pl, pw, qu, ou) (nI p) :=
  ⟨6, ys_ec hp h 5 0 (by omega)⟩
end UX9
end
section
section UX10
variable {ql pr : Int32} {ex : Int64} {kd ns np wo en st pp sp pc pg pn rg ds fi ow po pw pl qu ou : Nat → Int32}
variable {post : Int32 → Prop} {d a n p c k o m e s l b : Nat} {x r w : Int32}
theorem xa_ic1 (hc : c < 5) (h0 : st c ≠ 0) (hp : pp c = nI p) (h : post 1) : wpX_isChild post (ql, pr, ex, kd, ns, np, wo, en, st, pp, sp, pc, pg, pn, rg, ds, fi, ow, po, pw, pl, qu, ou) (nI c) (nI p) := by
  have cl : (nI c).toNatClampNeg = c := ux_c (by omega)
  exact ⟨vp_in_nI hc (by decide), br_f (by rw [cl]; exact h0) ⟨vp_in_nI hc (by decide), br_t (by rw [cl]; exact hp) h⟩⟩
theorem xa_ic0 (hc : c < 5) (hn : ¬ (st c ≠ 0 ∧ pp c = nI p)) (h : post 0) : wpX_isChild post (ql, pr, ex, kd, ns, np, wo, en, st, pp, sp, pc, pg, pn, rg, ds, fi, ow, po, pw, pl, qu, ou) (nI c) (nI p) := by
  have cl : (nI c).toNatClampNeg = c := ux_c (by omega)
  refine ⟨vp_in_nI hc (by decide), ?_⟩
  rw [cl]
  by_cases h0 : st c = 0
  · exact br_t h0 h
  · exact br_f h0 ⟨vp_in_nI hc (by decide), br_f (fun z => hn ⟨h0, z⟩) h⟩
theorem xs_hc : ∀ d i f, i + d ≤ 5 → (∀ j, i ≤ j → j < i + d → ¬ (st j ≠ 0 ∧ pp j = nI p)) → wX_hasChild_2 post (nI p) ql pr ex kd ns np wo en st pp sp pc pg pn rg ds fi ow po pw pl qu ou f (nI (i + d)) → wX_hasChild_2 post (nI p) ql pr ex kd ns np wo en st pp sp pc pg pn rg ds fi ow po pw pl qu ou (f + d) (nI i) := by
  intro d
  induction d with
  | zero => intro i f _ _ h; exact h
  | succ d ih =>
    intro i f hi hj h
    refine br_f (nI_ge (b := 5) (by omega) (by decide)) (xa_ic0 (by omega) (hj i (by omega) (by omega)) (br_t rfl (nm_r (nI_1 i) ?_)))
    exact ih (i + 1) f (by omega) (fun j h1 h2 => hj j (by omega) (by omega)) (by rw [show i + 1 + d = i + (d + 1) by omega]; exact h)
theorem xa_hc1 (hc : c < 5) (h0 : st c ≠ 0) (hp : pp c = nI p) (h : post 1) : wpX_hasChild post (ql, pr, ex, kd, ns, np, wo, en, st, pp, sp, pc, pg, pn, rg, ds, fi, ow, po, pw, pl, qu, ou) (nI p) := by
  rcases ux_ls (fun j => st j ≠ 0 ∧ pp j = nI p) 5 with ⟨i, hi, e, hj⟩ | hno
  · refine ⟨1 + i, xs_hc i 0 1 (by omega) (fun j _ h2 => hj j (by omega)) ?_⟩
    rw [Nat.zero_add]
    exact br_f (nI_ge (b := 5) (by omega) (by decide)) (xa_ic1 hi e.1 e.2 (br_f (by decide) h))
  · exact absurd ⟨h0, hp⟩ (hno c hc)
theorem xa_hc0 (hn : ∀ c, c < 5 → ¬ (st c ≠ 0 ∧ pp c = nI p)) (h : post 0) : wpX_hasChild post (ql, pr, ex, kd, ns, np, wo, en, st, pp, sp, pc, pg, pn, rg, ds, fi, ow, po, pw, pl, qu, ou) (nI p) := by
  refine ⟨1 + 5, xs_hc 5 0 1 (by omega) (fun j _ h2 => hn j (by omega)) ?_⟩
  exact br_t (by decide) h
theorem xs_ec : ∀ d i f, i + d ≤ 5 → (∀ j, i ≤ j → j < i + d → ¬ (st j = 3 ∧ pp j = nI p)) → wX_endedChild_2 post (nI p) ql pr ex kd ns np wo en st pp sp pc pg pn rg ds fi ow po pw pl qu ou f (nI (i + d)) → wX_endedChild_2 post (nI p) ql pr ex kd ns np wo en st pp sp pc pg pn rg ds fi ow po pw pl qu ou (f + d) (nI i) := by
  intro d
  induction d with
  | zero => intro i f _ _ h; exact h
  | succ d ih =>
    intro i f hi hj h
    have H := ih (i + 1) f (by omega) (fun j h1 h2 => hj j (by omega) (by omega)) (by rw [show i + 1 + d = i + (d + 1) by omega]; exact h)
    refine br_f (nI_ge (b := 5) (by omega) (by decide)) ?_
    by_cases hc : st i ≠ 0 ∧ pp i = nI p
    · refine xa_ic1 (by omega) hc.1 hc.2 (br_f (by decide) ⟨vp_in_nI (by omega) (by decide), br_f ?_ (nm_r (nI_1 i) H)⟩)
      rw [ux_c (by omega)]
      exact fun z => hj i (by omega) (by omega) ⟨z, hc.2⟩
    · exact xa_ic0 (by omega) hc (br_t rfl (nm_r (nI_1 i) H))
theorem xa_ec1 (hc : c < 5) (h3 : st c = 3) (hp : pp c = nI p) (hj : ∀ j, j < c → ¬ (st j = 3 ∧ pp j = nI p)) (h : post (nI c)) : wpX_endedChild post (ql, pr, ex, kd, ns, np, wo, en, st, pp, sp, pc, pg, pn, rg, ds, fi, ow, po, pw, pl, qu, ou) (nI p) := by
  refine ⟨1 + c, xs_ec c 0 1 (by omega) (fun j _ h2 => hj j (by omega)) ?_⟩
  rw [Nat.zero_add]
  refine br_f (nI_ge (b := 5) (by omega) (by decide)) (xa_ic1 hc (by rw [h3]; decide) hp (br_f (by decide) ⟨vp_in_nI (by omega) (by decide), br_t ?_ h⟩))
  rw [ux_c (by omega)]; exact h3
theorem xa_ec0 (hn : ∀ c, c < 5 → ¬ (st c = 3 ∧ pp c = nI p)) (h : post (-1)) : wpX_endedChild post (ql, pr, ex, kd, ns, np, wo, en, st, pp, sp, pc, pg, pn, rg, ds, fi, ow, po, pw, pl, qu, ou) (nI p) := by
  refine ⟨1 + 5, xs_ec 5 0 1 (by omega) (fun j _ h2 => hn j (by omega)) ?_⟩
  exact br_t (by decide) h
/-! descriptors -/
def ux_hv (ds : Nat → Int32) (p : Nat) (r w : Int32) : Prop := (∃ a, a < 4 ∧ r = nI a ∧ w = ds (p * 4 + a)) ∨ ((r < 0 ∨ (¬ r < 0 ∧ nI 4 ≤ r)) ∧ w = 0)
theorem ux_hvE (hD : ux_D ds) (hp : p < 5) (r : Int32) : ∃ w, ux_hv ds p r w ∧ ux_V w := by
  rcases ux_rg r 4 (by decide) with ⟨a, ha, e⟩ | h
  · exact ⟨_, Or.inl ⟨a, ha, e, rfl⟩, hD _ (by omega)⟩
  · exact ⟨0, Or.inr ⟨h, rfl⟩, Or.inl rfl⟩
theorem xa_ha (hp : p < 5) (hv : ux_hv ds p r w) (h : post w) : wpX_heldAt post (ql, pr, ex, kd, ns, np, wo, en, st, pp, sp, pc, pg, pn, rg, ds, fi, ow, po, pw, pl, qu, ou) (nI p) r := by
  rcases hv with ⟨a, ha, e1, e2⟩ | ⟨h1 | ⟨h1, h2⟩, e2⟩
  · rw [e1]
    rw [e2] at h
    have e : nI p * 4 + nI a = nI (p * 4 + a) := by rw [ux_mul_l, nI_add]
    exact br_f (nI_pos (by omega)) (br_t (nI_lt (b := 4) ha (by decide)) ⟨by rw [e]; exact vp_in_nI (by omega) (by decide), by rw [e, ux_c (by omega)]; exact h⟩)
  · rw [e2] at h; exact br_t h1 h
  · rw [e2] at h; exact br_f h1 (br_f (ux_hi h2) h)
theorem xa_pN (h1 : a < e ∨ e + 2 ≤ a) (ha : a < 100000) (he : e < 100000) (h : post (-1)) : wpX_pipeOf post (ql, pr, ex, kd, ns, np, wo, en, st, pp, sp, pc, pg, pn, rg, ds, fi, ow, po, pw, pl, qu, ou) (nI a) (nI e) := by
  by_cases h2 : a < e
  · exact br_t (nI_lt h2 (by omega)) h
  · refine br_f (nI_nlt (by omega) (by omega)) (br_t ?_ h)
    rw [ux_add2]; exact nI_le (by omega) (by omega)
theorem xa_pY (hk : k < 2) (he : e < 90000) (h : post (nI k)) : wpX_pipeOf post (ql, pr, ex, kd, ns, np, wo, en, st, pp, sp, pc, pg, pn, rg, ds, fi, ow, po, pw, pl, qu, ou) (nI (e + k)) (nI e) := by
  refine br_f (nI_nlt (by omega) (by omega)) (br_f ?_ ?_)
  · rw [ux_add2]; exact nI_ge (by omega) (by omega)
  · rw [ux_subN (by omega), show e + k - e = k by omega]; exact h
theorem xa_io1 (h1 : 1 ≤ a) (h2 : a ≤ 8) (h : post 1) : wpX_isOpening post (ql, pr, ex, kd, ns, np, wo, en, st, pp, sp, pc, pg, pn, rg, ds, fi, ow, po, pw, pl, qu, ou) (nI a) :=
  br_f (nI_nlt (b := 1) h1 (by omega)) (br_f (nI_ge (b := 9) (by omega) (by decide)) h)
theorem xa_io0 (h1 : a < 1 ∨ 9 ≤ a) (ha : a < 100000) (h : post 0) : wpX_isOpening post (ql, pr, ex, kd, ns, np, wo, en, st, pp, sp, pc, pg, pn, rg, ds, fi, ow, po, pw, pl, qu, ou) (nI a) := by
  by_cases h2 : a < 1
  · exact br_t (nI_lt (b := 1) h2 (by decide)) h
  · exact br_f (nI_nlt (b := 1) (by omega) (by omega)) (br_t (nI_le (a := 9) (by omega) (by omega)) h)
/-! programs -/
def ux_ip (sp pn : Nat → Int32) (p s l : Nat) : Prop := s < l ∧ l ≤ 20 ∧ sp p = nI s ∧ pn p = nI l
def ux_up (sp pn : Nat → Int32) (p l : Nat) : Prop := l ≤ 20 ∧ pn p = nI l ∧ (sp p < 0 ∨ (¬ sp p < 0 ∧ nI l ≤ sp p))
theorem ux_ipup (hl : l ≤ 20) (h : pn p = nI l) : (∃ s, ux_ip sp pn p s l) ∨ ux_up sp pn p l := by
  rcases ux_rg (sp p) l (by omega) with ⟨s, hs, e⟩ | h2
  · exact Or.inl ⟨s, hs, hl, e, h⟩
  · exact Or.inr ⟨hl, h, h2⟩
theorem xa_ip1 (hp : p < 5) (hi : ux_ip sp pn p s l) (h : post 1) : wpX_isInProgram post (ql, pr, ex, kd, ns, np, wo, en, st, pp, sp, pc, pg, pn, rg, ds, fi, ow, po, pw, pl, qu, ou) (nI p) := by
  obtain ⟨h1, h2, h3, h4⟩ := hi
  have cl : (nI p).toNatClampNeg = p := ux_c (by omega)
  have iv : vp_in (nI p) 5 := vp_in_nI hp (by decide)
  refine ⟨iv, ?_⟩
  rw [cl, h3, h4]
  exact br_f (nI_pos (by omega)) ⟨iv, iv, br_f (nI_ge h1 (by omega)) h⟩
theorem xa_ip0 (hp : p < 5) (hi : ux_up sp pn p l) (h : post 0) : wpX_isInProgram post (ql, pr, ex, kd, ns, np, wo, en, st, pp, sp, pc, pg, pn, rg, ds, fi, ow, po, pw, pl, qu, ou) (nI p) := by
  obtain ⟨h1, h2, h3⟩ := hi
  have cl : (nI p).toNatClampNeg = p := ux_c (by omega)
  have iv : vp_in (nI p) 5 := vp_in_nI hp (by decide)
  refine ⟨iv, ?_⟩
  rw [cl, h2]
  rcases h3 with h3 | ⟨h3, h4⟩
  · exact br_t h3 h
  · exact br_f h3 ⟨iv, iv, br_t h4 h⟩
/-! alive -/
theorem xa_al1 (hp : p < 5) (hs : st p = 1 ∨ st p = 2) (h : post 1) : wpX_isAlive post (ql, pr, ex, kd, ns, np, wo, en, st, pp, sp, pc, pg, pn, rg, ds, fi, ow, po, pw, pl, qu, ou) (nI p) := by
  have cl : (nI p).toNatClampNeg = p := ux_c (by omega)
  have iv : vp_in (nI p) 5 := vp_in_nI hp (by decide)
  refine br_f (nI_pos (by omega)) (br_f (nI_ge (b := 5) (by omega) (by decide)) ⟨iv, ?_⟩)
  rw [cl]
  rcases hs with h1 | h1
  · exact br_t h1 h
  · exact br_f (by rw [h1]; decide) ⟨iv, br_t h1 h⟩
theorem xa_al0 (hp : p < 5) (h1 : st p ≠ 1) (h2 : st p ≠ 2) (h : post 0) : wpX_isAlive post (ql, pr, ex, kd, ns, np, wo, en, st, pp, sp, pc, pg, pn, rg, ds, fi, ow, po, pw, pl, qu, ou) (nI p) := by
  have cl : (nI p).toNatClampNeg = p := ux_c (by omega)
  have iv : vp_in (nI p) 5 := vp_in_nI hp (by decide)
  refine br_f (nI_pos (by omega)) (br_f (nI_ge (b := 5) (by omega) (by decide)) ⟨iv, ?_⟩)
  rw [cl]
  exact br_f h1 ⟨iv, br_f h2 h⟩
theorem xa_alO (hr : r < 0 ∨ (¬ r < 0 ∧ nI 5 ≤ r)) (h : post 0) : wpX_isAlive post (ql, pr, ex, kd, ns, np, wo, en, st, pp, sp, pc, pg, pn, rg, ds, fi, ow, po, pw, pl, qu, ou) r := by
  rcases hr with h1 | ⟨h1, h2⟩
  · exact br_t h1 h
  · exact br_f h1 (br_t h2 h)
theorem xs_pl : ∀ d i f, i + d ≤ 5 → (∀ j, i ≤ j → j < i + d → ¬ ((st j = 1 ∨ st j = 2) ∧ pc j = w)) → wX_isPlace_2 post w ql pr ex kd ns np wo en st pp sp pc pg pn rg ds fi ow po pw pl qu ou f (nI (i + d)) → wX_isPlace_2 post w ql pr ex kd ns np wo en st pp sp pc pg pn rg ds fi ow po pw pl qu ou (f + d) (nI i) := by
  intro d
  induction d with
  | zero => intro i f _ _ h; exact h
  | succ d ih =>
    intro i f hi hj h
    have H := ih (i + 1) f (by omega) (fun j h1 h2 => hj j (by omega) (by omega)) (by rw [show i + 1 + d = i + (d + 1) by omega]; exact h)
    refine br_f (nI_ge (b := 5) (by omega) (by decide)) ?_
    by_cases hs : st i = 1 ∨ st i = 2
    · refine xa_al1 (by omega) hs (br_f (by decide) ⟨vp_in_nI (by omega) (by decide), br_f ?_ (nm_r (nI_1 i) H)⟩)
      rw [ux_c (by omega)]
      exact fun z => hj i (by omega) (by omega) ⟨hs, z⟩
    · exact xa_al0 (by omega) (fun z => hs (Or.inl z)) (fun z => hs (Or.inr z)) (br_t rfl (nm_r (nI_1 i) H))
theorem xa_pl1 (hh : ∃ j, j < 5 ∧ (st j = 1 ∨ st j = 2) ∧ pc j = w) (h : post 1) : wpX_isPlace post (ql, pr, ex, kd, ns, np, wo, en, st, pp, sp, pc, pg, pn, rg, ds, fi, ow, po, pw, pl, qu, ou) w := by
  rcases ux_ls (fun j => (st j = 1 ∨ st j = 2) ∧ pc j = w) 5 with ⟨i, hi, e, hj⟩ | hno
  · refine ⟨1 + i, xs_pl i 0 1 (by omega) (fun j _ h2 => hj j (by omega)) ?_⟩
    rw [Nat.zero_add]
    exact br_f (nI_ge (b := 5) (by omega) (by decide)) (xa_al1 hi e.1 (br_f (by decide) ⟨vp_in_nI (by omega) (by decide), br_t (by rw [ux_c (by omega)]; exact e.2) h⟩))
  · obtain ⟨j, hj, e⟩ := hh
    exact absurd e (hno j hj)
theorem xa_pl0 (hh : ∀ j, j < 5 → ¬ ((st j = 1 ∨ st j = 2) ∧ pc j = w)) (h : post 0) : wpX_isPlace post (ql, pr, ex, kd, ns, np, wo, en, st, pp, sp, pc, pg, pn, rg, ds, fi, ow, po, pw, pl, qu, ou) w := by
  refine ⟨1 + 5, xs_pl 5 0 1 (by omega) (fun j _ h2 => hh j (by omega)) ?_⟩
  exact br_t (by decide) h
/-! entering -/
/-- what can be entered: a name a that names nothing in d, with fewer than 6 entries there -/
def ux_ce (ns en : Nat → Int32) (d : Nat) (r : Int32) (a c : Nat) : Prop := a < 15 ∧ r = nI a ∧ ns d = nI c ∧ c < 6 ∧ en (d * 15 + a) = 0
def ux_cn0 (ns en : Nat → Int32) (d : Nat) (r : Int32) : Prop := (r < 0 ∨ (¬ r < 0 ∧ nI 15 ≤ r)) ∨ ∃ a, a < 15 ∧ r = nI a ∧ ((∃ c, 6 ≤ c ∧ c < 100 ∧ ns d = nI c) ∨ ((∃ c, c < 6 ∧ ns d = nI c) ∧ en (d * 15 + a) ≠ 0))
theorem xa_ce1 (hd : d < 10) (hc : ux_ce ns en d r a c) (h : post 1) : wpX_canEnter post (ql, pr, ex, kd, ns, np, wo, en, st, pp, sp, pc, pg, pn, rg, ds, fi, ow, po, pw, pl, qu, ou) (nI d) r := by
  obtain ⟨h1, h2, h3, h4, h5⟩ := hc
  have e : nI d * 15 + nI a = nI (d * 15 + a) := by rw [ux_mul_l, nI_add]
  rw [h2]
  refine br_f (nI_pos (by omega)) (br_f (nI_ge (b := 15) h1 (by decide)) ⟨vp_in_nI hd (by decide), ?_⟩)
  rw [ux_c (by omega), h3]
  refine br_f (nI_ge (b := 6) h4 (by decide)) ⟨by rw [e]; exact vp_in_nI (by omega) (by decide), br_t ?_ h⟩
  rw [e, ux_c (by omega)]; exact h5
theorem xa_ce0 (hd : d < 10) (hc : ux_cn0 ns en d r) (h : post 0) : wpX_canEnter post (ql, pr, ex, kd, ns, np, wo, en, st, pp, sp, pc, pg, pn, rg, ds, fi, ow, po, pw, pl, qu, ou) (nI d) r := by
  rcases hc with (h1 | ⟨h1, h2⟩) | ⟨a, h1, h2, h3⟩
  · exact br_t h1 h
  · exact br_f h1 (br_t h2 h)
  · have e : nI d * 15 + nI a = nI (d * 15 + a) := by rw [ux_mul_l, nI_add]
    rw [h2]
    refine br_f (nI_pos (by omega)) (br_f (nI_ge (b := 15) h1 (by decide)) ⟨vp_in_nI hd (by decide), ?_⟩)
    rw [ux_c (by omega)]
    rcases h3 with ⟨c, c1, c2, c3⟩ | ⟨⟨c, c1, c2⟩, c3⟩
    · rw [c3]; exact br_t (nI_le (a := 6) c1 (by omega)) h
    · rw [c2]
      refine br_f (nI_ge (b := 6) c1 (by decide)) ⟨by rw [e]; exact vp_in_nI (by omega) (by decide), br_f ?_ h⟩
      rw [e, ux_c (by omega)]; exact c3
/-! lost files -/
theorem xs_ie (hn : n < 10) : ∀ d i f, i + d ≤ 150 → (∀ j, i ≤ j → j < i + d → en j ≠ w) → wX_isEntered_2 post w ql pr ex kd ns np wo en st pp sp pc pg pn rg ds fi ow po pw pl qu ou f (nI (i + d)) → wX_isEntered_2 post w ql pr ex kd ns np wo en st pp sp pc pg pn rg ds fi ow po pw pl qu ou (f + d) (nI i) := by
  intro d
  induction d with
  | zero => intro i f _ _ h; exact h
  | succ d ih =>
    intro i f hi hj h
    refine br_f (nI_ge (b := 150) (by omega) (by decide)) ⟨vp_in_nI (by omega) (by decide), br_f (by rw [ux_c (by omega)]; exact hj i (by omega) (by omega)) (nm_r (nI_1 i) ?_)⟩
    exact ih (i + 1) f (by omega) (fun j h1 h2 => hj j (by omega) (by omega)) (by rw [show i + 1 + d = i + (d + 1) by omega]; exact h)
theorem xa_ie1 (hh : ∃ j, j < 150 ∧ en j = w) (h : post 1) : wpX_isEntered post (ql, pr, ex, kd, ns, np, wo, en, st, pp, sp, pc, pg, pn, rg, ds, fi, ow, po, pw, pl, qu, ou) w := by
  rcases ux_ls (fun j => en j = w) 150 with ⟨i, hi, e, hj⟩ | hno
  · refine ⟨1 + i, xs_ie (n := 0) (by omega) i 0 1 (by omega) (fun j _ h2 => hj j (by omega)) ?_⟩
    rw [Nat.zero_add]
    exact br_f (nI_ge (b := 150) (by omega) (by decide)) ⟨vp_in_nI (by omega) (by decide), br_t (by rw [ux_c (by omega)]; exact e) h⟩
  · obtain ⟨j, hj, e⟩ := hh
    exact absurd e (hno j hj)
theorem xa_ie0 (hh : ¬ ∃ j, j < 150 ∧ en j = w) (h : post 0) : wpX_isEntered post (ql, pr, ex, kd, ns, np, wo, en, st, pp, sp, pc, pg, pn, rg, ds, fi, ow, po, pw, pl, qu, ou) w := by
  refine ⟨1 + 150, xs_ie (n := 0) (by omega) 150 0 1 (by omega) (fun j _ h2 e => hh ⟨j, by omega, e⟩) ?_⟩
  exact br_t (by decide) h
/-- cell j holds an opening whose file is w -/
def ux_oq (ds fi : Nat → Int32) (w : Int32) (j : Nat) : Prop := ∃ o, o < 8 ∧ ds j = nI (1 + o) ∧ fi o = w
theorem ux_Vo (h : ux_V x) : (∃ o, o < 8 ∧ x = nI (1 + o)) ∨ ∃ a, x = nI a ∧ (a < 1 ∨ 9 ≤ a) ∧ a < 100000 := by
  rcases h with h | h | ⟨k, hk, h⟩ | ⟨k, hk, h⟩
  · exact Or.inr ⟨0, h, by omega, by omega⟩
  · exact Or.inl h
  · exact Or.inr ⟨4096 + k, h, by omega, by omega⟩
  · exact Or.inr ⟨8192 + k, h, by omega, by omega⟩
theorem xs_io (hD : ux_D ds) : ∀ d i f, i + d ≤ 20 → (∀ j, i ≤ j → j < i + d → ¬ ux_oq ds fi w j) → wX_isOpened_2 post w ql pr ex kd ns np wo en st pp sp pc pg pn rg ds fi ow po pw pl qu ou f (nI (i + d)) → wX_isOpened_2 post w ql pr ex kd ns np wo en st pp sp pc pg pn rg ds fi ow po pw pl qu ou (f + d) (nI i) := by
  intro d
  induction d with
  | zero => intro i f _ _ h; exact h
  | succ d ih =>
    intro i f hi hj h
    have H := ih (i + 1) f (by omega) (fun j h1 h2 => hj j (by omega) (by omega)) (by rw [show i + 1 + d = i + (d + 1) by omega]; exact h)
    refine br_f (nI_ge (b := 20) (by omega) (by decide)) ⟨vp_in_nI (by omega) (by decide), ?_⟩
    rw [ux_c (by omega)]
    rcases ux_Vo (hD i (by omega)) with ⟨o, ho, e⟩ | ⟨a, e, ha, hb⟩
    · have hq := hj i (by omega) (by omega)
      rw [e]
      refine xa_io1 (by omega) (by omega) (br_f (by decide) ⟨vp_in_nI (by omega) (by decide), ?_⟩)
      rw [ux_so, ux_c (by omega)]
      exact ⟨vp_in_nI ho (by decide), br_f (fun z => hq ⟨o, ho, e, z⟩) (nm_r (nI_1 i) H)⟩
    · rw [e]
      exact xa_io0 ha hb (br_t rfl (nm_r (nI_1 i) H))
theorem xa_iO1 (hD : ux_D ds) (hh : ∃ j, j < 20 ∧ ux_oq ds fi w j) (h : post 1) : wpX_isOpened post (ql, pr, ex, kd, ns, np, wo, en, st, pp, sp, pc, pg, pn, rg, ds, fi, ow, po, pw, pl, qu, ou) w := by
  rcases ux_ls (fun j => ux_oq ds fi w j) 20 with ⟨i, hi, ⟨o, ho, e1, e2⟩, hj⟩ | hno
  · refine ⟨1 + i, xs_io hD i 0 1 (by omega) (fun j _ h2 => hj j (by omega)) ?_⟩
    rw [Nat.zero_add]
    refine br_f (nI_ge (b := 20) (by omega) (by decide)) ⟨vp_in_nI (by omega) (by decide), ?_⟩
    rw [ux_c (by omega), e1]
    refine xa_io1 (by omega) (by omega) (br_f (by decide) ⟨vp_in_nI (by omega) (by decide), ?_⟩)
    rw [ux_so, ux_c (by omega)]
    exact ⟨vp_in_nI ho (by decide), br_t e2 h⟩
  · obtain ⟨j, hj, e⟩ := hh
    exact absurd e (hno j hj)
theorem xa_iO0 (hD : ux_D ds) (hh : ¬ ∃ j, j < 20 ∧ ux_oq ds fi w j) (h : post 0) : wpX_isOpened post (ql, pr, ex, kd, ns, np, wo, en, st, pp, sp, pc, pg, pn, rg, ds, fi, ow, po, pw, pl, qu, ou) w := by
  refine ⟨1 + 20, xs_io hD 20 0 1 (by omega) (fun j _ h2 e => hh ⟨j, by omega, e⟩) ?_⟩
  exact br_t (by decide) h
end UX10
end
section
section UX11
/-- the first i nodes are done -/
def ux_ci (kd K : Nat → Int32) (i : Nat) : Nat → Int32 := fun n => if n < i then K n else kd n
theorem ux_ci_0 {kd K : Nat → Int32} : ux_ci kd K 0 = kd := by
  funext n
  exact if_neg (Nat.not_lt_zero n)
theorem ux_ci_at {kd K : Nat → Int32} {i : Nat} : ux_ci kd K i i = kd i := if_neg (Nat.lt_irrefl i)
theorem ux_ci_s {kd K : Nat → Int32} {i : Nat} : ux_ci kd K (i + 1) = upd (ux_ci kd K i) i (K i) := by
  funext n
  by_cases e : n = i
  · rw [e, ux_us]; exact if_pos (by omega)
  · rw [ux_un e]
    unfold ux_ci
    by_cases h : n < i
    · rw [if_pos h, if_pos (by omega)]
    · rw [if_neg h, if_neg (by omega)]
theorem ux_ci_k {kd K : Nat → Int32} {i : Nat} (h : K i = kd i) : ux_ci kd K (i + 1) = ux_ci kd K i := by
  rw [ux_ci_s]
  exact ux_ue (by rw [ux_ci_at, h])
theorem ux_ci_10 {kd K : Nat → Int32} (h : ∀ n, 10 ≤ n → K n = kd n) : ux_ci kd K 10 = K := by
  funext n
  unfold ux_ci
  by_cases e : n < 10
  · rw [if_pos e]
  · rw [if_neg e, h n (by omega)]
theorem ux_ck_10 {kd en ds fi : Nat → Int32} : ∀ n, 10 ≤ n → ux_ck kd en ds fi n = kd n := fun n h => ux_ck_f (fun z => by have := z.1; omega)
theorem ux_ci_2 {kd en ds fi : Nat → Int32} {i n : Nat} (h : kd n = 2) : ux_ci kd (ux_ck kd en ds fi) i n = 2 := by
  unfold ux_ci
  by_cases e : n < i
  · rw [if_pos e]; exact ux_ck_2 h
  · rw [if_neg e]; exact h
theorem ux_op_oq {ds fi : Nat → Int32} {n : Nat} : ux_op ds fi n ↔ ∃ j, j < 20 ∧ ux_oq ds fi (nI n) j :=
  ⟨fun ⟨j, o, h1, h2, h3, h4⟩ => ⟨j, h1, o, h2, h3, h4⟩, fun ⟨j, h1, o, h2, h3, h4⟩ => ⟨j, o, h1, h2, h3, h4⟩⟩
theorem ux_div {a d : Nat} (ha : a < 2 ^ 31) (h0 : 0 < d) (hd : d < 2 ^ 31) : nI a / nI d = nI (a / d) := by
  apply Int32.toInt_inj.mp
  rw [lg_idiv_nonneg (by rw [nI_toInt ha]; omega) (by rw [nI_toInt hd]; omega), nI_toInt ha, nI_toInt hd, nI_toInt (Nat.lt_of_le_of_lt (Nat.div_le_self a d) ha)]
  first | rfl | exact (Int.natCast_ediv _ _).symm
end UX11
section UX11X
variable {ql pr : Int32} {ex : Int64} {kd ns np wo en st pp sp pc pg pn rg ds fi ow po pw pl qu ou : Nat → Int32}
variable {post : SX → Prop} {i r : Nat}
theorem xs_fl (hD : ux_D ds) (h : post (ql, pr, ex, ux_ck kd en ds fi, ns, np, wo, en, st, pp, sp, pc, pg, pn, rg, ds, fi, ow, po, pw, pl, qu, ou)) : ∀ r i, i + r = 10 → wX_freeLostFiles_2 post ql pr ex (r + 1) (nI i) (ux_ci kd (ux_ck kd en ds fi) i) ns np wo en st pp sp pc pg pn rg ds fi ow po pw pl qu ou := by
  intro r
  induction r with
  | zero =>
    intro i hi
    have ei : i = 10 := by omega
    subst ei
    rw [ux_ci_10 ux_ck_10]
    exact br_t (by decide) h
  | succ r ih =>
    intro i hi
    have H := ih (i + 1) (by omega)
    refine br_f (nI_ge (b := 10) (by omega) (by decide)) ⟨vp_in_nI (by omega) (by decide), ?_⟩
    rw [ux_c (by omega), ux_ci_at]
    by_cases h1 : kd i = 1
    · refine br_t h1 ?_
      by_cases h2 : ux_en en i
      · rw [ux_ci_k (ux_ck_en h2)] at H
        exact xa_ie1 h2 (br_f (by decide) (nm_r (nI_1 i) H))
      · refine xa_ie0 h2 (br_t rfl ?_)
        by_cases h3 : ux_op ds fi i
        · rw [ux_ci_k (ux_ck_op h3)] at H
          exact xa_iO1 hD (ux_op_oq.mp h3) (br_f (by decide) (nm_r (nI_1 i) H))
        · rw [ux_ci_s, ux_ck_t ⟨by omega, h1, h2, h3⟩] at H
          exact xa_iO0 hD (fun z => h3 (ux_op_oq.mpr z)) (br_t rfl ⟨vp_in_nI (by omega) (by decide), nm_e (nm_r (nI_1 i) H)⟩)
    · rw [ux_ci_k (ux_ck_n1 h1)] at H
      exact br_f h1 (nm_r (nI_1 i) H)
theorem xa_fl (hD : ux_D ds) (h : post (ql, pr, ex, ux_ck kd en ds fi, ns, np, wo, en, st, pp, sp, pc, pg, pn, rg, ds, fi, ow, po, pw, pl, qu, ou)) : wpX_freeLostFiles post (ql, pr, ex, kd, ns, np, wo, en, st, pp, sp, pc, pg, pn, rg, ds, fi, ow, po, pw, pl, qu, ou) := by
  have H := xs_fl hD h 10 0 (by omega)
  rw [ux_ci_0] at H
  exact ⟨11, H⟩
end UX11X
section UX11Y
variable {ql pr go : Int32} {ex : Int64} {kd ns le wo en et np st qp sp pn pg rg ee ds pc fi ow po pl pw qu ou : Nat → Int32}
variable {post : SY → Prop} {i : Nat} {J : Int32 → (Nat → Int32) → (Nat → Int32) → (Nat → Int32) → (Nat → Int32) → (Nat → Int32) → (Nat → Int32) → (Nat → Int32) → (Nat → Int32) → (Nat → Int32) → (Nat → Int32) → (Nat → Int32) → (Nat → Int32) → (Nat → Int32) → (Nat → Int32) → (Nat → Int32) → (Nat → Int32) → (Nat → Int32) → (Nat → Int32) → (Nat → Int32) → (Nat → Int32) → Prop}
theorem ys_c66 (hi : i < 10) : ∀ r j (u : Int32), j + r = 8 → (u = 0 ∨ u = 1) →
    ((u = 0 ∧ ∀ o, j ≤ o → o < 8 → ¬ (fi o = nI i ∧ ux_hd ee (nI (1 + o)))) → J (nI (i + 1)) (upd kd i 0) le wo et np st qp sp pn pg rg ee pc fi ow po pl pw qu ou) →
    (¬ (u = 0 ∧ ∀ o, j ≤ o → o < 8 → ¬ (fi o = nI i ∧ ux_hd ee (nI (1 + o)))) → J (nI (i + 1)) kd le wo et np st qp sp pn pg rg ee pc fi ow po pl pw qu ou) →
    wY_clean_66 post J (nI i) ql ex pr go kd le wo et np st qp sp pn pg rg ee pc fi ow po pl pw qu ou (r + 1) u (nI j) := by
  intro r
  induction r with
  | zero =>
    intro j u hj hu h0 h1
    have ej : j = 8 := by omega
    subst ej
    refine br_t (by decide) ?_
    by_cases hz : u = 0
    · refine br_t hz ⟨vp_in_nI hi (by decide), nm_r (by rw [ux_c (by omega)]) (nm_r (nI_1 i) (h0 ⟨hz, fun o g1 g2 => by omega⟩))⟩
    · exact br_f hz (nm_r (nI_1 i) (h1 (fun z => hz z.1)))
  | succ r ih =>
    intro j u hj hu h0 h1
    refine br_f (nI_ge (b := 8) (by omega) (by decide)) ⟨vp_in_nI (by omega) (by decide), ?_⟩
    rw [ux_c (by omega), ux_l_add]
    have same : ¬ (fi j = nI i ∧ ux_hd ee (nI (1 + j))) → wY_clean_66 post J (nI i) ql ex pr go kd le wo et np st qp sp pn pg rg ee pc fi ow po pl pw qu ou (r + 1) u (nI (j + 1)) := by
      intro hq
      refine ih (j + 1) u (by omega) hu (fun z => h0 ⟨z.1, fun o g1 g2 => ?_⟩) (fun z => h1 (fun y => z ⟨y.1, fun o g1 g2 => y.2 o (by omega) g2⟩))
      by_cases eo : o = j
      · rw [eo]; exact hq
      · exact z.2 o (by omega) g2
    by_cases hf : fi j = nI i
    · refine br_t hf ?_
      by_cases hh : ux_hd ee (nI (1 + j))
      · refine ya_h1 hh (br_f (by decide) (nm_r (nI_1 j) ?_))
        exact ih (j + 1) 1 (by omega) (Or.inr rfl) (fun z => absurd z.1 (by decide)) (fun _ => h1 (fun y => y.2 j (by omega) (by omega) ⟨hf, hh⟩))
      · exact ya_h0 hh (br_t rfl (nm_r (nI_1 j) (same (fun z => hh z.2))))
    · exact br_f hf (nm_r (nI_1 j) (same (fun z => hf z.1)))
theorem ys_c26 (hi : i < 10) : ∀ r j (u : Int32), j + r = 150 → (u = 0 ∨ u = 1) →
    ((u = 0 ∧ ∀ o, j ≤ o → o < 150 → ¬ (et o = nI i ∧ kd (o / 15) = 2)) → ∃ n, wY_clean_66 post J (nI i) ql ex pr go kd le wo et np st qp sp pn pg rg ee pc fi ow po pl pw qu ou n 0 0) →
    (¬ (u = 0 ∧ ∀ o, j ≤ o → o < 150 → ¬ (et o = nI i ∧ kd (o / 15) = 2)) → ∃ n, wY_clean_66 post J (nI i) ql ex pr go kd le wo et np st qp sp pn pg rg ee pc fi ow po pl pw qu ou n 1 0) →
    wY_clean_26 post J (nI i) ql ex pr go kd le wo et np st qp sp pn pg rg ee pc fi ow po pl pw qu ou (r + 1) u (nI j) := by
  intro r
  induction r with
  | zero =>
    intro j u hj hu h0 h1
    have ej : j = 150 := by omega
    subst ej
    refine br_t (by decide) ?_
    rcases hu with hz | hz
    · subst hz
      exact h0 ⟨rfl, fun o g1 g2 => by omega⟩
    · subst hz
      exact h1 (fun z => absurd z.1 (by decide))
  | succ r ih =>
    intro j u hj hu h0 h1
    refine br_f (nI_ge (b := 150) (by omega) (by decide)) ⟨vp_in_nI (by omega) (by decide), ?_⟩
    rw [ux_c (by omega)]
    have same : ¬ (et j = nI i ∧ kd (j / 15) = 2) → wY_clean_26 post J (nI i) ql ex pr go kd le wo et np st qp sp pn pg rg ee pc fi ow po pl pw qu ou (r + 1) u (nI (j + 1)) := by
      intro hq
      refine ih (j + 1) u (by omega) hu (fun z => h0 ⟨z.1, fun o g1 g2 => ?_⟩) (fun z => h1 (fun y => z ⟨y.1, fun o g1 g2 => y.2 o (by omega) g2⟩))
      by_cases eo : o = j
      · rw [eo]; exact hq
      · exact z.2 o (by omega) g2
    by_cases hf : et j = nI i
    · refine br_t hf ⟨by decide, ?_⟩
      have ed : nI j / 15 = nI (j / 15) := ux_div (d := 15) (by omega) (by omega) (by omega)
      rw [ed, ux_c (by omega)]
      refine ⟨vp_in_nI (by omega) (by decide), ?_⟩
      by_cases hk : kd (j / 15) = 2
      · refine br_t hk (nm_r (nI_1 j) ?_)
        exact ih (j + 1) 1 (by omega) (Or.inr rfl) (fun z => absurd z.1 (by decide)) (fun _ => h1 (fun y => y.2 j (by omega) (by omega) ⟨hf, hk⟩))
      · exact br_f hk (nm_r (nI_1 j) (same (fun z => hk z.2)))
    · exact br_f hf (nm_r (nI_1 j) (same (fun z => hf z.1)))
theorem ux_EN_n {en : Nat → Int32} {j i : Nat} (hj : j < 150) (h0 : 0 < i) (hi : i < 10) : ux_EN en j = nI i ↔ en j = nI i := by
  by_cases h : en j = 0
  · rw [ux_EN_0 hj h, h]
    exact ⟨fun z => absurd z.symm (ux_neg1 (by omega)), fun z => absurd z.symm (ux_nz h0 (by omega))⟩
  · rw [ux_EN_1 hj h]
theorem ys_cl (hE : ux_E kd en) (hD : ux_D ds) (h : post (ql, ex, pr, go, ux_ck kd en ds fi, le, wo, ux_EN en, np, st, qp, sp, pn, pg, rg, ux_ED ds, pc, fi, ow, po, pl, pw, qu, ou)) : ∀ r i, 0 < i → i + r = 10 → wY_clean_2 post ql ex pr go (r + 1) (nI i) (ux_ci kd (ux_ck kd en ds fi) i) le wo (ux_EN en) np st qp sp pn pg rg (ux_ED ds) pc fi ow po pl pw qu ou := by
  intro r
  induction r with
  | zero =>
    intro i h0 hi
    have ei : i = 10 := by omega
    subst ei
    rw [ux_ci_10 ux_ck_10]
    exact br_t (by decide) h
  | succ r ih =>
    intro i h0 hi
    have H := ih (i + 1) (by omega) (by omega)
    have hopen : (∀ o, 0 ≤ o → o < 8 → ¬ (fi o = nI i ∧ ux_hd (ux_ED ds) (nI (1 + o)))) ↔ ¬ ux_op ds fi i := by
      constructor
      · intro z ⟨j, o, g1, g2, g3, g4⟩
        exact z o (by omega) g2 ⟨g4, (ux_hd_o hD g2).mpr ⟨j, g1, g3⟩⟩
      · intro z o _ g2 ⟨g3, g4⟩
        obtain ⟨j, g5, g6⟩ := (ux_hd_o hD g2).mp g4
        exact z ⟨j, o, g5, g2, g6, g3⟩
    have hent : (∀ o, 0 ≤ o → o < 150 → ¬ (ux_EN en o = nI i ∧ ux_ci kd (ux_ck kd en ds fi) i (o / 15) = 2)) ↔ ¬ ux_en en i := by
      constructor
      · intro z ⟨j, g1, g2⟩
        refine z j (by omega) g1 ⟨(ux_EN_n g1 h0 (by omega)).mpr g2, ux_ci_2 ?_⟩
        rcases hE j g1 with e | ⟨a, _, _, _, _, e⟩
        · rw [e] at g2; exact absurd g2.symm (ux_nz h0 (by omega))
        · exact e
      · intro z o _ g2 ⟨g3, _⟩
        exact z ⟨o, g2, (ux_EN_n g2 h0 (by omega)).mp g3⟩
    have hkeep : ux_ck kd en ds fi i = kd i → wY_clean_2 post ql ex pr go (r + 1) (nI (i + 1)) (ux_ci kd (ux_ck kd en ds fi) i) le wo (ux_EN en) np st qp sp pn pg rg (ux_ED ds) pc fi ow po pl pw qu ou := by
      intro e
      rw [ux_ci_k e] at H
      exact H
    have h66 : ∀ u : Int32, (u = 0 ∨ u = 1) → (u = 0 → kd i = 1 ∧ ¬ ux_en en i) → (u = 1 → ux_ck kd en ds fi i = kd i) →
        ∃ n, wY_clean_66 post (wY_clean_2 post ql ex pr go (r + 1)) (nI i) ql ex pr go (ux_ci kd (ux_ck kd en ds fi) i) le wo (ux_EN en) np st qp sp pn pg rg (ux_ED ds) pc fi ow po pl pw qu ou n u 0 := by
      intro u hu hu0 hu1
      refine ⟨9, ys_c66 (by omega) 8 0 u (by omega) hu (fun z => ?_) (fun z => ?_)⟩
      · have h1 := hu0 z.1
        have h2 := hopen.mp z.2
        rw [ux_ci_s, ux_ck_t ⟨by omega, h1.1, h1.2, h2⟩] at H
        exact H
      · refine hkeep ?_
        rcases hu with e | e
        · exact ux_ck_f (fun y => z ⟨e, hopen.mpr y.2.2.2⟩)
        · exact hu1 e
    refine br_f (nI_ge (b := 10) (by omega) (by decide)) ⟨vp_in_nI (by omega) (by decide), ?_⟩
    rw [ux_c (by omega), ux_ci_at]
    by_cases h1 : kd i = 1
    · refine br_t h1 ⟨151, ys_c26 (by omega) 150 0 0 (by omega) (Or.inl rfl) (fun z => ?_) (fun z => ?_)⟩
      · exact h66 0 (Or.inl rfl) (fun _ => ⟨h1, hent.mp z.2⟩) (fun e => absurd e (by decide))
      · refine h66 1 (Or.inr rfl) (fun e => absurd e (by decide)) (fun _ => ux_ck_f (fun y => z ⟨rfl, hent.mpr y.2.2.1⟩))
    · refine br_f h1 ⟨151, ys_c26 (by omega) 150 0 1 (by omega) (Or.inr rfl) (fun z => absurd z.1 (by decide)) (fun z => ?_)⟩
      exact h66 1 (Or.inr rfl) (fun e => absurd e (by decide)) (fun _ => ux_ck_n1 h1)
theorem ya_cl (hK : ux_K kd) (hE : ux_E kd en) (hD : ux_D ds) (h : post (ql, ex, pr, go, ux_ck kd en ds fi, le, wo, ux_EN en, np, st, qp, sp, pn, pg, rg, ux_ED ds, pc, fi, ow, po, pl, pw, qu, ou)) : wpY_clean post (ql, ex, pr, go, kd, le, wo, ux_EN en, np, st, qp, sp, pn, pg, rg, ux_ED ds, pc, fi, ow, po, pl, pw, qu, ou) := by
  have H := ys_cl hE hD h 9 1 (by omega) (by omega)
  rw [ux_ci_k (ux_ck_n1 (by rw [hK.1]; exact ux_n21)), ux_ci_0] at H
  exact ⟨10, H⟩
end UX11Y
end
section
section UX12
variable {ql pr : Int32} {ex : Int64} {kd ns np wo en st pp sp pc pg pn rg ds fi ow po pw pl qu ou : Nat → Int32}
variable {qp : Nat → Int32} {go : Int32} {post : Int32 → Prop} {d a n p c k o m e s l b : Nat} {x r w : Int32}
theorem ux_hv_u {y : Int32} (h1 : ux_hv ds p r w) (h2 : ux_hv ds p r y) : w = y := by
  rcases h1 with ⟨a, ha, e1, e2⟩ | ⟨h, e2⟩
  · rcases h2 with ⟨b, hb, e3, e4⟩ | ⟨h, e4⟩
    · rw [e1] at e3
      rw [e2, e4, ux_inj e3 (by omega) (by omega)]
    · exfalso
      rw [e1] at h
      rcases h with h | ⟨_, h⟩
      · exact nI_pos (by omega) h
      · exact nI_ge ha (by omega) h
  · rcases h2 with ⟨b, hb, e3, e4⟩ | ⟨h, e4⟩
    · exfalso
      rw [e3] at h
      rcases h with h | ⟨_, h⟩
      · exact nI_pos (by omega) h
      · exact nI_ge hb (by omega) h
    · rw [e2, e4]
theorem ux_hm1 (h0 : ¬ x < 0) (h : nI l ≤ x) (hl : l ≤ 20) : nI l - 1 < x := by
  by_cases e : l = 0
  · rw [e, show nI 0 - 1 = -1 from by decide]
    exact Int32.lt_of_lt_of_le (by decide) (ux_nl h0)
  · obtain ⟨t, rfl⟩ : ∃ t, l = t + 1 := ⟨l - 1, by omega⟩
    rw [nI_pred]
    exact ux_gt (by omega) h
theorem xa_rw1 (hk : k < 2) (h0 : pl k = 0) (hh : ux_hd ds (nI (8192 + k))) (h : post 1) : wpX_readingWaits post (ql, pr, ex, kd, ns, np, wo, en, st, pp, sp, pc, pg, pn, rg, ds, fi, ow, po, pw, pl, qu, ou) (nI (4096 + k)) := by
  unfold wpX_readingWaits
  refine xa_pY (e := 4096) hk (by omega) (br_f (nI_pos (by omega)) ⟨vp_in_nI hk (by decide), br_t (by rw [ux_c (by omega)]; exact h0) ?_⟩)
  rw [ux_l_add]
  exact xa_ih1 hh (br_f (by decide) h)
theorem xa_rwA (hk : k < 2) (h0 : pl k ≠ 0) (h : post 0) : wpX_readingWaits post (ql, pr, ex, kd, ns, np, wo, en, st, pp, sp, pc, pg, pn, rg, ds, fi, ow, po, pw, pl, qu, ou) (nI (4096 + k)) := by
  unfold wpX_readingWaits
  exact xa_pY (e := 4096) hk (by omega) (br_f (nI_pos (by omega)) ⟨vp_in_nI hk (by decide), br_f (by rw [ux_c (by omega)]; exact h0) h⟩)
theorem xa_rwB (hk : k < 2) (h0 : pl k = 0) (hh : ¬ ux_hd ds (nI (8192 + k))) (h : post 0) : wpX_readingWaits post (ql, pr, ex, kd, ns, np, wo, en, st, pp, sp, pc, pg, pn, rg, ds, fi, ow, po, pw, pl, qu, ou) (nI (4096 + k)) := by
  unfold wpX_readingWaits
  refine xa_pY (e := 4096) hk (by omega) (br_f (nI_pos (by omega)) ⟨vp_in_nI hk (by decide), br_t (by rw [ux_c (by omega)]; exact h0) ?_⟩)
  rw [ux_l_add]
  exact xa_ih0 hh (br_t rfl h)
theorem xa_rwC (ha : a < 4096 ∨ 4096 + 2 ≤ a) (h1 : a < 100000) (h : post 0) : wpX_readingWaits post (ql, pr, ex, kd, ns, np, wo, en, st, pp, sp, pc, pg, pn, rg, ds, fi, ow, po, pw, pl, qu, ou) (nI a) := by
  unfold wpX_readingWaits
  exact xa_pN (e := 4096) ha h1 (by omega) (br_t (by decide) h)
theorem xa_ww1 (hk : k < 2) (h0 : pl k = 4) (hh : ux_hd ds (nI (4096 + k))) (h : post 1) : wpX_writingWaits post (ql, pr, ex, kd, ns, np, wo, en, st, pp, sp, pc, pg, pn, rg, ds, fi, ow, po, pw, pl, qu, ou) (nI (8192 + k)) := by
  unfold wpX_writingWaits
  refine xa_pY (e := 8192) hk (by omega) (br_f (nI_pos (by omega)) ⟨vp_in_nI hk (by decide), br_t (by rw [ux_c (by omega)]; exact h0) ?_⟩)
  rw [ux_l_add]
  exact xa_ih1 hh (br_f (by decide) h)
theorem xa_wwA (hk : k < 2) (h0 : pl k ≠ 4) (h : post 0) : wpX_writingWaits post (ql, pr, ex, kd, ns, np, wo, en, st, pp, sp, pc, pg, pn, rg, ds, fi, ow, po, pw, pl, qu, ou) (nI (8192 + k)) := by
  unfold wpX_writingWaits
  exact xa_pY (e := 8192) hk (by omega) (br_f (nI_pos (by omega)) ⟨vp_in_nI hk (by decide), br_f (by rw [ux_c (by omega)]; exact h0) h⟩)
theorem xa_wwB (hk : k < 2) (h0 : pl k = 4) (hh : ¬ ux_hd ds (nI (4096 + k))) (h : post 0) : wpX_writingWaits post (ql, pr, ex, kd, ns, np, wo, en, st, pp, sp, pc, pg, pn, rg, ds, fi, ow, po, pw, pl, qu, ou) (nI (8192 + k)) := by
  unfold wpX_writingWaits
  refine xa_pY (e := 8192) hk (by omega) (br_f (nI_pos (by omega)) ⟨vp_in_nI hk (by decide), br_t (by rw [ux_c (by omega)]; exact h0) ?_⟩)
  rw [ux_l_add]
  exact xa_ih0 hh (br_t rfl h)
theorem xa_wwC (ha : a < 8192 ∨ 8192 + 2 ≤ a) (h1 : a < 100000) (h : post 0) : wpX_writingWaits post (ql, pr, ex, kd, ns, np, wo, en, st, pp, sp, pc, pg, pn, rg, ds, fi, ow, po, pw, pl, qu, ou) (nI a) := by
  unfold wpX_writingWaits
  exact xa_pN (e := 8192) ha h1 (by omega) (br_t (by decide) h)
/-! the reference's descriptor -/
theorem ya_eO (hp : p < 5) (hb : b < 4) (hv : ux_hv ds p (rg (p * 4 + b)) w) (h : post (ux_cv w)) : wpY_endOf post (ql, ex, pr, go, kd, (ux_LN kd ns), wo, (ux_EN en), np, st, qp, sp, pn, pg, rg, (ux_ED ds), pc, fi, ow, po, pl, pw, qu, ou) (nI p) (nI b) := by
  have e : 4 * nI p + nI b = nI (p * 4 + b) := by rw [ux_l_mul, nI_add, Nat.mul_comm]
  unfold wpY_endOf
  dsimp only
  rw [e, ux_c (by omega)]
  refine ⟨vp_in_nI (by omega) (by decide), nm_e ?_⟩
  rcases hv with ⟨a, ha, e1, e2⟩ | ⟨hr, e2⟩
  · have e3 : 4 * nI p + nI a = nI (p * 4 + a) := by rw [ux_l_mul, nI_add, Nat.mul_comm]
    rw [e1]
    refine ya_inN (b := 0) (e := 3) (by omega) (by omega) (by omega) (br_f (by decide) ?_)
    rw [e3, ux_c (by omega)]
    rw [e2] at h
    exact ⟨vp_in_nI (by omega) (by decide), h⟩
  · rw [e2, ux_cv0] at h
    exact ya_inR 3 (by omega) hr (br_t rfl h)
theorem ux_k1 : ∀ k, k < 2 → nI k &&& 1 = nI k := by decide +kernel
theorem ux_bz0 : narrow .boolean (.int 0) = .int 0 := rfl
theorem ux_bz1 : narrow .boolean (.int 1) = .int 1 := rfl
end UX12
end
section
section UX13
variable {ql pr : Int32} {ex : Int64} {kd ns np wo en st pp sp pc pg pn rg ds fi ow po pw pl qu ou : Nat → Int32}
variable {qp : Nat → Int32} {go : Int32} {d a n p c k o m e s l b : Nat} {x r w y : Int32}
theorem xa_wwI {post : Int32 → Prop} (hp : p < 5) (hi : ux_ip sp pn p s l) (hw : pg (p * 20 + s) = w) (ho : w &&& 31 = x)
    (h : (x = 11 → wpX_hasChild (fun r => (r = 0 → post 0) ∧ (¬ r = 0 → wpX_endedChild (fun r => (0 ≤ r → post 0) ∧ (¬ 0 ≤ r → post 1)) (ql, pr, ex, kd, ns, np, wo, en, st, pp, sp, pc, pg, pn, rg, ds, fi, ow, po, pw, pl, qu, ou) (nI p))) (ql, pr, ex, kd, ns, np, wo, en, st, pp, sp, pc, pg, pn, rg, ds, fi, ow, po, pw, pl, qu, ou) (nI p)) ∧ (¬ x = 11 → (x = 15 → wX_wouldWait_74 post (nI p) w x ql pr ex kd ns np wo en st pp sp pc pg pn rg ds fi ow po pw pl qu ou) ∧ (¬ x = 15 → (x = 16 → wX_wouldWait_74 post (nI p) w x ql pr ex kd ns np wo en st pp sp pc pg pn rg ds fi ow po pw pl qu ou) ∧ (¬ x = 16 → post 0)))) :
    wpX_wouldWait post (ql, pr, ex, kd, ns, np, wo, en, st, pp, sp, pc, pg, pn, rg, ds, fi, ow, po, pw, pl, qu, ou) (nI p) := by
  have h4 := hi
  obtain ⟨h1, h2, h3, _⟩ := h4
  have cl : (nI p).toNatClampNeg = p := ux_c (by omega)
  have iv : vp_in (nI p) 5 := vp_in_nI hp (by decide)
  have e : nI p * 20 + nI s = nI (p * 20 + s) := by rw [ux_mul_l, nI_add]
  unfold wpX_wouldWait
  refine xa_ip1 hp hi (br_f (by decide) ⟨iv, ?_⟩)
  rw [cl, h3, e, ux_c (by omega)]
  exact ⟨vp_in_nI (by omega) (by decide), nm_r hw (nm_r ho h)⟩
theorem ya_wwI {post : Int32 → Prop} (hp : p < 5) (hi : ux_ip sp pn p s l) (hw : pg (p * 20 + s) = w) (ho : w &&& 31 = x) (hb : b < 4) (eb : (w >>> ((7 : Int32) &&& 31)) &&& 3 = nI b) (hv : ux_hv ds p (rg (p * 4 + b)) y) (hy : ux_cv y = r)
    (h : (x = 11 → wpY_endedChild (fun r => (r = (-1) → post 1) ∧ (¬ r = (-1) → post 0)) (ql, ex, pr, go, kd, (ux_LN kd ns), wo, (ux_EN en), np, st, qp, sp, pn, pg, rg, (ux_ED ds), pc, fi, ow, po, pl, pw, qu, ou) (nI p)) ∧ (¬ x = 11 → (x = 15 → wpY_in (fun r2 => (r2 = 0 → post 0) ∧ (¬ r2 = 0 → (vp_in ((r - 101) &&& 1) 2 ∧ ((pl ((r - 101) &&& 1).toNatClampNeg = 0 → wpY_has (fun r => (r = 0 → post 0) ∧ (¬ r = 0 → post 1)) (ql, ex, pr, go, kd, (ux_LN kd ns), wo, (ux_EN en), np, st, qp, sp, pn, pg, rg, (ux_ED ds), pc, fi, ow, po, pl, pw, qu, ou) (r + 100)) ∧ (¬ pl ((r - 101) &&& 1).toNatClampNeg = 0 → post 0))))) (ql, ex, pr, go, kd, (ux_LN kd ns), wo, (ux_EN en), np, st, qp, sp, pn, pg, rg, (ux_ED ds), pc, fi, ow, po, pl, pw, qu, ou) r 101 102) ∧ (¬ x = 15 → (x = 16 → wpY_in (fun r2 => (r2 = 0 → post 0) ∧ (¬ r2 = 0 → (vp_in ((r - 201) &&& 1) 2 ∧ ((pl ((r - 201) &&& 1).toNatClampNeg = 4 → wpY_has (fun r => (r = 0 → post 0) ∧ (¬ r = 0 → post 1)) (ql, ex, pr, go, kd, (ux_LN kd ns), wo, (ux_EN en), np, st, qp, sp, pn, pg, rg, (ux_ED ds), pc, fi, ow, po, pl, pw, qu, ou) (r - 100)) ∧ (¬ pl ((r - 201) &&& 1).toNatClampNeg = 4 → post 0))))) (ql, ex, pr, go, kd, (ux_LN kd ns), wo, (ux_EN en), np, st, qp, sp, pn, pg, rg, (ux_ED ds), pc, fi, ow, po, pl, pw, qu, ou) r 201 202) ∧ (¬ x = 16 → post 0)))) :
    wpY_waits post (ql, ex, pr, go, kd, (ux_LN kd ns), wo, (ux_EN en), np, st, qp, sp, pn, pg, rg, (ux_ED ds), pc, fi, ow, po, pl, pw, qu, ou) (nI p) := by
  obtain ⟨h1, h2, h3, h4⟩ := hi
  have cl : (nI p).toNatClampNeg = p := ux_c (by omega)
  have iv : vp_in (nI p) 5 := vp_in_nI hp (by decide)
  have e : 20 * nI p + nI s = nI (p * 20 + s) := by rw [ux_l_mul, nI_add, Nat.mul_comm]
  obtain ⟨t, rfl⟩ : ∃ t, l = t + 1 := ⟨l - 1, by omega⟩
  unfold wpY_waits
  dsimp only
  rw [cl, h3, h4, nI_pred, e, ux_c (by omega)]
  refine ⟨iv, iv, ya_inT (nI_pos (by omega)) (nI_nlt (by omega) (by omega)) (br_f (by decide) ⟨iv, vp_in_nI (by omega) (by decide), nm_r hw (nm_r ho ?_)⟩)⟩
  rw [eb]
  refine ya_eO hp hb hv ?_
  rw [hy]
  exact h
theorem ya_wwO {post : Int32 → Prop} (hp : p < 5) (hi : ux_up sp pn p l) (h : post 0) : wpY_waits post (ql, ex, pr, go, kd, (ux_LN kd ns), wo, (ux_EN en), np, st, qp, sp, pn, pg, rg, (ux_ED ds), pc, fi, ow, po, pl, pw, qu, ou) (nI p) := by
  obtain ⟨h1, h2, h3⟩ := hi
  have cl : (nI p).toNatClampNeg = p := ux_c (by omega)
  have iv : vp_in (nI p) 5 := vp_in_nI hp (by decide)
  unfold wpY_waits
  dsimp only
  rw [cl, h2]
  refine ⟨iv, iv, ya_inF ?_ (br_t rfl h)⟩
  rcases h3 with h3 | ⟨h3, h4⟩
  · exact Or.inl h3
  · exact Or.inr (ux_hm1 h3 h4 h1)
theorem xa_wwO {post : Int32 → Prop} (hp : p < 5) (hi : ux_up sp pn p l) (h : post 0) : wpX_wouldWait post (ql, pr, ex, kd, ns, np, wo, en, st, pp, sp, pc, pg, pn, rg, ds, fi, ow, po, pw, pl, qu, ou) (nI p) := by
  unfold wpX_wouldWait
  exact xa_ip0 hp hi (br_t rfl h)
theorem xa_w74 {post : Int32 → Prop} (hp : p < 5) (hb : b < 4) (eb : (w >>> ((7 : Int32) &&& 31)) &&& 3 = nI b) (hv : ux_hv ds p (rg (p * 4 + b)) y)
    (h : (x = 15 → wpX_readingWaits (fun r => (narrow .boolean (.int r) = .int r ∧ post r)) (ql, pr, ex, kd, ns, np, wo, en, st, pp, sp, pc, pg, pn, rg, ds, fi, ow, po, pw, pl, qu, ou) y) ∧ (¬ x = 15 → wpX_writingWaits (fun r => (narrow .boolean (.int r) = .int r ∧ post r)) (ql, pr, ex, kd, ns, np, wo, en, st, pp, sp, pc, pg, pn, rg, ds, fi, ow, po, pw, pl, qu, ou) y)) : wX_wouldWait_74 post (nI p) w x ql pr ex kd ns np wo en st pp sp pc pg pn rg ds fi ow po pw pl qu ou := by
  have e : nI p * 4 + nI b = nI (p * 4 + b) := by rw [ux_mul_l, nI_add]
  unfold wX_wouldWait_74
  rw [eb, e, ux_c (by omega)]
  exact ⟨vp_in_nI (by omega) (by decide), xa_ha hp hv h⟩
/-- what not to wait says of a write -/
def ux_NW (pg rg ds pl : Nat → Int32) (p s : Nat) : Prop := ∀ b k, b < 4 → k < 2 → pg (p * 20 + s) &&& 31 = 16 → (pg (p * 20 + s) >>> ((7 : Int32) &&& 31)) &&& 3 = nI b → ux_hv ds p (rg (p * 4 + b)) (nI (8192 + k)) → ux_hd ds (nI (4096 + k)) → pl k ≠ 4
theorem ux_nwN {pg rg ds pl : Nat → Int32} (h : pg (p * 20 + s) &&& 31 ≠ 16) : ux_NW pg rg ds pl p s := fun _ _ _ _ z => absurd z h
theorem ux_ww (hD : ux_D ds) (hR : ux_R kd st pp qp pc pn) (hp : p < 5) (hs : st p = 1 ∨ st p = 2) :
    ∃ r : Int32, (r = 0 ∨ r = 1) ∧ (r = 0 → ∀ s l, ux_ip sp pn p s l → ux_NW pg rg ds pl p s) ∧ (∀ post : Int32 → Prop, post r → wpX_wouldWait post (ql, pr, ex, kd, ns, np, wo, en, st, pp, sp, pc, pg, pn, rg, ds, fi, ow, po, pw, pl, qu, ou) (nI p)) ∧ (∀ post : Int32 → Prop, post r → wpY_waits post (ql, ex, pr, go, kd, (ux_LN kd ns), wo, (ux_EN en), np, st, qp, sp, pn, pg, rg, (ux_ED ds), pc, fi, ow, po, pl, pw, qu, ou) (nI p)) := by
  obtain ⟨_, l, hl, el⟩ := (hR p hp).2.2 hs
  rcases ux_ipup (sp := sp) hl el with ⟨s, hi⟩ | hu
  · have hsu : ∀ s2 l2, ux_ip sp pn p s2 l2 → s2 = s := by
      intro s2 l2 h2
      have e1 := h2.2.2.1
      rw [hi.2.2.1] at e1
      have := hi.1
      have := hi.2.1
      have := h2.1
      have := h2.2.1
      exact (ux_inj e1 (by omega) (by omega)).symm
    obtain ⟨b, hb, eb⟩ := ux_b2 (pg (p * 20 + s) >>> ((7 : Int32) &&& 31))
    obtain ⟨y, hv, hV⟩ := ux_hvE hD hp (rg (p * 4 + b))
    by_cases h11 : pg (p * 20 + s) &&& 31 = 11
    · have hN : ∀ s2 l2, ux_ip sp pn p s2 l2 → ux_NW pg rg ds pl p s2 := fun s2 l2 h2 => by
        rw [hsu s2 l2 h2]; exact ux_nwN (by rw [h11]; decide)
      rcases ux_ls (fun c => st c = 3 ∧ pp c = nI p) 5 with ⟨c, hc, ⟨c3, cp⟩, hj⟩ | hno
      · refine ⟨0, Or.inl rfl, fun _ => hN, fun post h => ?_, fun post h => ?_⟩
        · exact xa_wwI hp hi rfl h11 (br_t rfl (xa_hc1 hc (by rw [c3]; decide) cp (br_f (by decide) (xa_ec1 hc c3 cp hj (br_t (nI_pos' (by omega)) h)))))
        · refine ya_wwI hp hi rfl h11 hb eb hv rfl (br_t rfl (ya_ec hp ?_))
          have hq : ∀ j, j < 5 → st j ≠ 0 → pp j = qp j := fun j h1 h2 => ((hR j h1).2.1 h2).1
          rw [ux_ec_e 5 (by omega) c (by omega) hc c3 (by rw [← hq c hc (by rw [c3]; decide)]; exact cp) (fun j _ h2 h3 => hj j h2 ⟨h3.1, by rw [hq j (by omega) (by rw [h3.1]; decide)]; exact h3.2⟩)]
          exact br_f (ux_neg1 (by omega)) h
      · rcases ux_ls (fun c => st c ≠ 0 ∧ pp c = nI p) 5 with ⟨c, hc, ⟨c3, cp⟩, hj⟩ | hnc
        · refine ⟨1, Or.inr rfl, fun z => absurd z (by decide), fun post h => ?_, fun post h => ?_⟩
          · exact xa_wwI hp hi rfl h11 (br_t rfl (xa_hc1 hc c3 cp (br_f (by decide) (xa_ec0 hno (br_f (by decide) h)))))
          · refine ya_wwI hp hi rfl h11 hb eb hv rfl (br_t rfl (ya_ec hp ?_))
            have hq : ∀ j, j < 5 → st j ≠ 0 → pp j = qp j := fun j h1 h2 => ((hR j h1).2.1 h2).1
            rw [ux_ec_l 5 (by omega) (fun j _ h2 h3 h4 h5 => hno j h2 ⟨h5, by rw [hq j h2 h3]; exact h4⟩) ⟨c, by omega, hc, c3, by rw [← hq c hc c3]; exact cp⟩]
            exact br_t rfl h
        · refine ⟨0, Or.inl rfl, fun _ => hN, fun post h => ?_, fun post h => ?_⟩
          · exact xa_wwI hp hi rfl h11 (br_t rfl (xa_hc0 hnc (br_t rfl h)))
          · refine ya_wwI hp hi rfl h11 hb eb hv rfl (br_t rfl (ya_ec hp ?_))
            have hq : ∀ j, j < 5 → st j ≠ 0 → pp j = qp j := fun j h1 h2 => ((hR j h1).2.1 h2).1
            rw [ux_ec_n 5 (by omega) (fun j _ h2 h3 => hnc j h2 ⟨h3.1, by rw [hq j h2 h3.1]; exact h3.2⟩)]
            exact br_f (by decide) h
    · by_cases h15 : pg (p * 20 + s) &&& 31 = 15
      · have hN : ∀ s2 l2, ux_ip sp pn p s2 l2 → ux_NW pg rg ds pl p s2 := fun s2 l2 h2 => by
          rw [hsu s2 l2 h2]; exact ux_nwN (by rw [h15]; decide)
        have hr0 : (∃ a, y = nI a ∧ (a < 4096 ∨ 4096 + 2 ≤ a) ∧ a < 100000 ∧ ∃ a2, ux_cv y = nI a2 ∧ (a2 < 101 ∨ 102 < a2) ∧ a2 < 100000) ∨ ∃ k, k < 2 ∧ y = nI (4096 + k) := by
          rcases hV with h | ⟨o, ho, h⟩ | h | ⟨k, hk, h⟩
          · exact Or.inl ⟨0, h, by omega, by omega, 0, by rw [h, ux_cv0]; rfl, by omega, by omega⟩
          · exact Or.inl ⟨1 + o, h, by omega, by omega, 1 + o, by rw [h, ux_cvo o ho], by omega, by omega⟩
          · exact Or.inr h
          · exact Or.inl ⟨8192 + k, h, by omega, by omega, 201 + k, by rw [h, ux_cvw k hk], by omega, by omega⟩
        rcases hr0 with ⟨a, ea, ha, ha2, a2, ea2, hb2, hb3⟩ | ⟨k, hk, ey⟩
        · refine ⟨0, Or.inl rfl, fun _ => hN, fun post h => ?_, fun post h => ?_⟩
          · refine xa_wwI hp hi rfl h15 (br_f (by decide) (br_t rfl (xa_w74 hp hb eb hv (br_t rfl ?_))))
            rw [ea]
            exact xa_rwC ha ha2 ⟨ux_bz0, h⟩
          · exact ya_wwI hp hi rfl h15 hb eb hv ea2 (br_f (by decide) (br_t rfl (ya_inO (b := 101) (e := 102) hb2 hb3 (by omega) (br_t rfl h))))
        · have ecv : ux_cv y = nI (101 + k) := by rw [ey]; exact ux_cvr k hk
          have es : nI (101 + k) - 101 = nI k := ux_s101 k
          have ea : nI (101 + k) + 100 = nI (201 + k) := ux_a100 k
          have hY : ∀ post : Int32 → Prop, ((pl k = 0 → wpY_has (fun r => (r = 0 → post 0) ∧ (¬ r = 0 → post 1)) (ql, ex, pr, go, kd, (ux_LN kd ns), wo, (ux_EN en), np, st, qp, sp, pn, pg, rg, (ux_ED ds), pc, fi, ow, po, pl, pw, qu, ou) (nI (201 + k))) ∧ (¬ pl k = 0 → post 0)) → wpY_waits post (ql, ex, pr, go, kd, (ux_LN kd ns), wo, (ux_EN en), np, st, qp, sp, pn, pg, rg, (ux_ED ds), pc, fi, ow, po, pl, pw, qu, ou) (nI p) := by
            intro post h
            refine ya_wwI hp hi rfl h15 hb eb hv ecv (br_f (by decide) (br_t rfl (ya_inN (b := 101) (e := 102) (by omega) (by omega) (by omega) (br_f (by decide) ?_))))
            rw [es, ux_k1 k hk, ux_c (by omega), ea]
            exact ⟨vp_in_nI hk (by decide), h⟩
          by_cases h0 : pl k = 0
          · by_cases hh : ux_hd ds (nI (8192 + k))
            · refine ⟨1, Or.inr rfl, fun z => absurd z (by decide), fun post h => ?_, fun post h => ?_⟩
              · refine xa_wwI hp hi rfl h15 (br_f (by decide) (br_t rfl (xa_w74 hp hb eb hv (br_t rfl ?_))))
                rw [ey]
                exact xa_rw1 hk h0 hh ⟨ux_bz1, h⟩
              · exact hY post (br_t h0 (ya_h1 ((ux_hd_w hD hk).mpr hh) (br_f (by decide) h)))
            · refine ⟨0, Or.inl rfl, fun _ => hN, fun post h => ?_, fun post h => ?_⟩
              · refine xa_wwI hp hi rfl h15 (br_f (by decide) (br_t rfl (xa_w74 hp hb eb hv (br_t rfl ?_))))
                rw [ey]
                exact xa_rwB hk h0 hh ⟨ux_bz0, h⟩
              · exact hY post (br_t h0 (ya_h0 (fun z => hh ((ux_hd_w hD hk).mp z)) (br_t rfl h)))
          · refine ⟨0, Or.inl rfl, fun _ => hN, fun post h => ?_, fun post h => ?_⟩
            · refine xa_wwI hp hi rfl h15 (br_f (by decide) (br_t rfl (xa_w74 hp hb eb hv (br_t rfl ?_))))
              rw [ey]
              exact xa_rwA hk h0 ⟨ux_bz0, h⟩
            · exact hY post (br_f h0 h)
      · by_cases h16 : pg (p * 20 + s) &&& 31 = 16
        · have hr0 : (∃ a, y = nI a ∧ (a < 8192 ∨ 8192 + 2 ≤ a) ∧ a < 100000 ∧ ∃ a2, ux_cv y = nI a2 ∧ (a2 < 201 ∨ 202 < a2) ∧ a2 < 100000) ∨ ∃ k, k < 2 ∧ y = nI (8192 + k) := by
            rcases hV with h | ⟨o, ho, h⟩ | ⟨k, hk, h⟩ | h
            · exact Or.inl ⟨0, h, by omega, by omega, 0, by rw [h, ux_cv0]; rfl, by omega, by omega⟩
            · exact Or.inl ⟨1 + o, h, by omega, by omega, 1 + o, by rw [h, ux_cvo o ho], by omega, by omega⟩
            · exact Or.inl ⟨4096 + k, h, by omega, by omega, 101 + k, by rw [h, ux_cvr k hk], by omega, by omega⟩
            · exact Or.inr h
          have hbu : ∀ b2, b2 < 4 → (pg (p * 20 + s) >>> ((7 : Int32) &&& 31)) &&& 3 = nI b2 → b2 = b := fun b2 h1 h2 => by
            rw [eb] at h2; exact (ux_inj h2 (by omega) (by omega)).symm
          rcases hr0 with ⟨a, ea, ha, ha2, a2, ea2, hb2, hb3⟩ | ⟨k, hk, ey⟩
          · refine ⟨0, Or.inl rfl, fun _ s2 l2 h2 => ?_, fun post h => ?_, fun post h => ?_⟩
            · rw [hsu s2 l2 h2]
              intro b2 k2 g1 g2 _ g4 g5
              rw [hbu b2 g1 g4] at g5
              have := ux_hv_u hv g5
              rw [ea] at this
              have := ux_inj this (by omega) (by omega)
              omega
            · refine xa_wwI hp hi rfl h16 (br_f (by decide) (br_f (by decide) (br_t rfl (xa_w74 hp hb eb hv (br_f (by decide) ?_)))))
              rw [ea]
              exact xa_wwC ha ha2 ⟨ux_bz0, h⟩
            · exact ya_wwI hp hi rfl h16 hb eb hv ea2 (br_f (by decide) (br_f (by decide) (br_t rfl (ya_inO (b := 201) (e := 202) hb2 hb3 (by omega) (br_t rfl h)))))
          · have ecv : ux_cv y = nI (201 + k) := by rw [ey]; exact ux_cvw k hk
            have es : nI (201 + k) - 201 = nI k := ux_s201 k
            have ea : nI (201 + k) - 100 = nI (101 + k) := ux_s100 k
            have hY : ∀ post : Int32 → Prop, ((pl k = 4 → wpY_has (fun r => (r = 0 → post 0) ∧ (¬ r = 0 → post 1)) (ql, ex, pr, go, kd, (ux_LN kd ns), wo, (ux_EN en), np, st, qp, sp, pn, pg, rg, (ux_ED ds), pc, fi, ow, po, pl, pw, qu, ou) (nI (101 + k))) ∧ (¬ pl k = 4 → post 0)) → wpY_waits post (ql, ex, pr, go, kd, (ux_LN kd ns), wo, (ux_EN en), np, st, qp, sp, pn, pg, rg, (ux_ED ds), pc, fi, ow, po, pl, pw, qu, ou) (nI p) := by
              intro post h
              refine ya_wwI hp hi rfl h16 hb eb hv ecv (br_f (by decide) (br_f (by decide) (br_t rfl (ya_inN (b := 201) (e := 202) (by omega) (by omega) (by omega) (br_f (by decide) ?_)))))
              rw [es, ux_k1 k hk, ux_c (by omega), ea]
              exact ⟨vp_in_nI hk (by decide), h⟩
            have hku : ∀ b2 k2, b2 < 4 → k2 < 2 → (pg (p * 20 + s) >>> ((7 : Int32) &&& 31)) &&& 3 = nI b2 → ux_hv ds p (rg (p * 4 + b2)) (nI (8192 + k2)) → k2 = k := by
              intro b2 k2 g1 g2 g4 g5
              rw [hbu b2 g1 g4] at g5
              have := ux_hv_u hv g5
              rw [ey] at this
              have := ux_inj this (by omega) (by omega)
              omega
            by_cases h0 : pl k = 4
            · by_cases hh : ux_hd ds (nI (4096 + k))
              · refine ⟨1, Or.inr rfl, fun z => absurd z (by decide), fun post h => ?_, fun post h => ?_⟩
                · refine xa_wwI hp hi rfl h16 (br_f (by decide) (br_f (by decide) (br_t rfl (xa_w74 hp hb eb hv (br_f (by decide) ?_)))))
                  rw [ey]
                  exact xa_ww1 hk h0 hh ⟨ux_bz1, h⟩
                · exact hY post (br_t h0 (ya_h1 ((ux_hd_r hD hk).mpr hh) (br_f (by decide) h)))
              · refine ⟨0, Or.inl rfl, fun _ s2 l2 h2 => ?_, fun post h => ?_, fun post h => ?_⟩
                · rw [hsu s2 l2 h2]
                  intro b2 k2 g1 g2 _ g4 g5 g6
                  rw [hku b2 k2 g1 g2 g4 g5] at g6
                  exact absurd g6 hh
                · refine xa_wwI hp hi rfl h16 (br_f (by decide) (br_f (by decide) (br_t rfl (xa_w74 hp hb eb hv (br_f (by decide) ?_)))))
                  rw [ey]
                  exact xa_wwB hk h0 hh ⟨ux_bz0, h⟩
                · exact hY post (br_t h0 (ya_h0 (fun z => hh ((ux_hd_r hD hk).mp z)) (br_t rfl h)))
            · refine ⟨0, Or.inl rfl, fun _ s2 l2 h2 => ?_, fun post h => ?_, fun post h => ?_⟩
              · rw [hsu s2 l2 h2]
                intro b2 k2 g1 g2 _ g4 g5 _
                rw [hku b2 k2 g1 g2 g4 g5]
                exact h0
              · refine xa_wwI hp hi rfl h16 (br_f (by decide) (br_f (by decide) (br_t rfl (xa_w74 hp hb eb hv (br_f (by decide) ?_)))))
                rw [ey]
                exact xa_wwA hk h0 ⟨ux_bz0, h⟩
              · exact hY post (br_f h0 h)
        · refine ⟨0, Or.inl rfl, fun _ s2 l2 h2 => ?_, fun post h => ?_, fun post h => ?_⟩
          · rw [hsu s2 l2 h2]; exact ux_nwN h16
          · exact xa_wwI hp hi rfl rfl (br_f h11 (br_f h15 (br_f h16 h)))
          · exact ya_wwI hp hi rfl rfl hb eb hv rfl (br_f h11 (br_f h15 (br_f h16 h)))
  · refine ⟨0, Or.inl rfl, fun _ s2 l2 h2 => ?_, fun post h => xa_wwO hp hu h, fun post h => ya_wwO hp hu h⟩
    obtain ⟨g1, g2, g3, g4⟩ := h2
    obtain ⟨u1, u2, u3⟩ := hu
    rw [u2] at g4
    have := ux_inj g4 (by omega) (by omega)
    rw [g3] at u3
    rcases u3 with z | ⟨_, z⟩
    · exact absurd z (nI_pos (by omega))
    · exact absurd z (nI_ge (by omega) (by omega))
end UX13
end
section
section UX14
variable {st pp qp ds : Nat → Int32} {p i : Nat}
def ux_zi (ds : Nat → Int32) (p : Nat) : Nat → (Nat → Int32)
  | 0 => ds
  | i + 1 => upd (ux_zi ds p i) (p * 4 + i) 0
theorem ux_zi_s : ux_zi ds p (i + 1) = upd (ux_zi ds p i) (p * 4 + i) 0 := rfl
theorem ux_zi_4 : ux_zi ds p 4 = ux_zp ds p := rfl
theorem ux_p1_at : ux_p1 pp p i i = pp i := if_neg (fun z => Nat.lt_irrefl i z.1)
theorem ux_s1_at : ux_s1 st pp p i i = st i := if_neg (fun z => Nat.lt_irrefl i z.1)
theorem ux_p2_at : ux_p2 st qp p i i = qp i := if_neg (fun z => Nat.lt_irrefl i z.1)
theorem ux_s2_at : ux_s2 st qp p i i = st i := if_neg (fun z => Nat.lt_irrefl i z.1)
theorem ux_p1_0 : ux_p1 pp p 0 = pp := by funext c; exact if_neg (fun z => Nat.not_lt_zero c z.1)
theorem ux_s1_0 : ux_s1 st pp p 0 = st := by funext c; exact if_neg (fun z => Nat.not_lt_zero c z.1)
theorem ux_p2_0 : ux_p2 st qp p 0 = qp := by funext c; exact if_neg (fun z => Nat.not_lt_zero c z.1)
theorem ux_s2_0 : ux_s2 st qp p 0 = st := by funext c; exact if_neg (fun z => Nat.not_lt_zero c z.1)
theorem ux_ltp {c : Nat} (e : c ≠ i) : c < i + 1 ↔ c < i := by omega
theorem ux_p1_t (h : pp i = nI p) : ux_p1 pp p (i + 1) = upd (ux_p1 pp p i) i (-1) := by
  funext c
  by_cases e : c = i
  · rw [e, ux_us]; exact if_pos ⟨by omega, h⟩
  · rw [ux_un e]; unfold ux_p1; simp only [ux_ltp e]
theorem ux_p1_f (h : pp i ≠ nI p) : ux_p1 pp p (i + 1) = ux_p1 pp p i := by
  funext c
  by_cases e : c = i
  · rw [e, ux_p1_at]; exact if_neg (fun z => h z.2)
  · unfold ux_p1; simp only [ux_ltp e]
theorem ux_s1_t (h : pp i = nI p) (h3 : st i = 3) : ux_s1 st pp p (i + 1) = upd (ux_s1 st pp p i) i 0 := by
  funext c
  by_cases e : c = i
  · rw [e, ux_us]; exact if_pos ⟨by omega, h, h3⟩
  · rw [ux_un e]; unfold ux_s1; simp only [ux_ltp e]
theorem ux_s1_f (h : ¬ (pp i = nI p ∧ st i = 3)) : ux_s1 st pp p (i + 1) = ux_s1 st pp p i := by
  funext c
  by_cases e : c = i
  · rw [e, ux_s1_at]; exact if_neg (fun z => h z.2)
  · unfold ux_s1; simp only [ux_ltp e]
theorem ux_p2_t (h1 : i ≠ p) (h2 : st i ≠ 0) (h : qp i = nI p) : ux_p2 st qp p (i + 1) = upd (ux_p2 st qp p i) i (-1) := by
  funext c
  by_cases e : c = i
  · rw [e, ux_us]; exact if_pos ⟨by omega, h1, h2, h⟩
  · rw [ux_un e]; unfold ux_p2; simp only [ux_ltp e]
theorem ux_p2_f (h : ¬ (i ≠ p ∧ st i ≠ 0 ∧ qp i = nI p)) : ux_p2 st qp p (i + 1) = ux_p2 st qp p i := by
  funext c
  by_cases e : c = i
  · rw [e, ux_p2_at]; exact if_neg (fun z => h z.2)
  · unfold ux_p2; simp only [ux_ltp e]
theorem ux_s2_t (h1 : i ≠ p) (h2 : st i ≠ 0) (h : qp i = nI p) (h3 : st i = 3) : ux_s2 st qp p (i + 1) = upd (ux_s2 st qp p i) i 0 := by
  funext c
  by_cases e : c = i
  · rw [e, ux_us]; exact if_pos ⟨by omega, h1, h2, h, h3⟩
  · rw [ux_un e]; unfold ux_s2; simp only [ux_ltp e]
theorem ux_s2_f (h : ¬ (i ≠ p ∧ st i ≠ 0 ∧ qp i = nI p ∧ st i = 3)) : ux_s2 st qp p (i + 1) = ux_s2 st qp p i := by
  funext c
  by_cases e : c = i
  · rw [e, ux_s2_at]; exact if_neg (fun z => h z.2)
  · unfold ux_s2; simp only [ux_ltp e]
end UX14
section UX14X
variable {ql pr : Int32} {ex : Int64} {kd ns np wo en st pp sp pc pg pn rg ds fi ow po pw pl qu ou : Nat → Int32}
variable {post : SX → Prop} {p n m i r : Nat} {x y : Int32}
theorem xa_jq (hp : p < 5) (hm : m < 5) (h : post (nI (m + 1), pr, ex, kd, ns, np, wo, en, st, pp, sp, pc, pg, pn, rg, ds, fi, ow, po, pw, pl, upd qu m (nI p), ou)) : wpX_joinQueue post (nI m, pr, ex, kd, ns, np, wo, en, st, pp, sp, pc, pg, pn, rg, ds, fi, ow, po, pw, pl, qu, ou) (nI p) := by
  refine br_f (nI_ge (b := 5) hm (by decide)) ⟨vp_in_nI hm (by decide), ?_⟩
  rw [ux_c (by omega)]
  exact nm_e (nm_r (nI_1 m) h)
theorem xs_lq (hm : m ≤ 5) (h : post (nI (ux_lk qu p m).2, pr, ex, kd, ns, np, wo, en, st, pp, sp, pc, pg, pn, rg, ds, fi, ow, po, pw, pl, (ux_lk qu p m).1, ou)) : ∀ r k, k + r = m → wX_leaveQueue_4 post (nI p) (nI m) pr ex (r + 1) (nI (ux_lk qu p k).2) (nI k) kd ns np wo en st pp sp pc pg pn rg ds fi ow po pw pl ((ux_lk qu p k).1) ou := by
  intro r
  induction r with
  | zero =>
    intro k hk
    have ek : k = m := by omega
    subst ek
    exact br_t (nI_le (Nat.le_refl _) (by omega)) h
  | succ r ih =>
    intro k hk
    have H := ih (k + 1) (by omega)
    have hle := (ux_lk_le (q := qu) (p := p) k).1
    refine br_f (nI_ge (by omega) (by omega)) ⟨vp_in_nI (by omega) (by decide), ?_⟩
    rw [ux_c (n := k) (by omega)]
    by_cases hc : (ux_lk qu p k).1 k = nI p
    · rw [ux_lk_t hc] at H
      exact br_t hc (nm_r (nI_1 k) H)
    · rw [ux_lk_f hc] at H
      refine br_f hc ⟨vp_in_nI (by omega) (by decide), vp_in_nI (by omega) (by decide), ?_⟩
      rw [ux_c (n := (ux_lk qu p k).2) (by omega)]
      exact nm_e (nm_r (nI_1 _) (nm_r (nI_1 k) H))
theorem xa_lq (hm : m ≤ 5) (h : post (nI (ux_lk qu p m).2, pr, ex, kd, ns, np, wo, en, st, pp, sp, pc, pg, pn, rg, ds, fi, ow, po, pw, pl, (ux_lk qu p m).1, ou)) : wpX_leaveQueue post (nI m, pr, ex, kd, ns, np, wo, en, st, pp, sp, pc, pg, pn, rg, ds, fi, ow, po, pw, pl, qu, ou) (nI p) :=
  ⟨m + 1, xs_lq hm h m 0 (by omega)⟩
theorem xs_ld (hp : p < 5) (hn : n < 10) (h : post (ql, pr, ex, kd, ns, np, wo, en, st, pp, upd sp p 0, pc, ux_cw pg wo (p * 20) (n * 20) 20, upd pn p (ns n), rg, ds, fi, ow, po, pw, pl, qu, ou)) : ∀ r i, i + r = 20 → wX_loadProgram_2 post (nI p) (nI n) ql pr ex (r + 1) (nI i) kd ns np wo en st pp sp pc (ux_cw pg wo (p * 20) (n * 20) i) pn rg ds fi ow po pw pl qu ou := by
  intro r
  induction r with
  | zero =>
    intro i hi
    have ei : i = 20 := by omega
    subst ei
    refine br_t (by decide) ⟨vp_in_nI hn (by decide), vp_in_nI hp (by decide), ?_⟩
    rw [ux_c (n := p) (by omega), ux_c (n := n) (by omega)]
    exact nm_e ⟨vp_in_nI hp (by decide), nm_e h⟩
  | succ r ih =>
    intro i hi
    have H := ih (i + 1) (by omega)
    have e1 : nI n * 20 + nI i = nI (n * 20 + i) := by rw [ux_mul_l, nI_add]
    have e2 : nI p * 20 + nI i = nI (p * 20 + i) := by rw [ux_mul_l, nI_add]
    refine br_f (nI_ge (b := 20) (by omega) (by decide)) ?_
    rw [e1, e2, ux_c (n := n * 20 + i) (by omega), ux_c (n := p * 20 + i) (by omega)]
    exact ⟨vp_in_nI (by omega) (by decide), vp_in_nI (by omega) (by decide), nm_e (nm_r (nI_1 i) H)⟩
theorem xa_ld (hp : p < 5) (hn : n < 10) (h : post (ql, pr, ex, kd, ns, np, wo, en, st, pp, upd sp p 0, pc, ux_cw pg wo (p * 20) (n * 20) 20, upd pn p (ns n), rg, ds, fi, ow, po, pw, pl, qu, ou)) : wpX_loadProgram post (ql, pr, ex, kd, ns, np, wo, en, st, pp, sp, pc, pg, pn, rg, ds, fi, ow, po, pw, pl, qu, ou) (nI p) (nI n) :=
  ⟨21, xs_ld hp hn h 20 0 (by omega)⟩
theorem xs_e26 (hp : p < 5) (hown : pp p ≠ nI p) (hx : (pp p = -1 ∧ x = 0) ∨ (pp p ≠ -1 ∧ x = 3)) (h : post (ql, pr, ex, kd, ns, np, wo, en, upd (ux_s1 st pp p 5) p x, ux_p1 pp p 5, upd sp p y, pc, pg, pn, rg, ds, fi, ow, po, pw, pl, qu, ou)) : ∀ r i, i + r = 5 → wX_endProcess_26 post (nI p) y ql pr ex (r + 1) (nI i) kd ns np wo en (ux_s1 st pp p i) (ux_p1 pp p i) sp pc pg pn rg ds fi ow po pw pl qu ou := by
  have cp : (nI p).toNatClampNeg = p := ux_c (by omega)
  have iv : vp_in (nI p) 5 := vp_in_nI hp (by decide)
  intro r
  induction r with
  | zero =>
    intro i hi
    have ei : i = 5 := by omega
    subst ei
    refine br_t (by decide) ⟨iv, ?_⟩
    have e1 : ux_p1 pp p 5 p = pp p := if_neg (fun z => hown z.2)
    rw [cp, e1]
    rcases hx with ⟨h1, h2⟩ | ⟨h1, h2⟩
    · subst h2
      exact br_t h1 ⟨iv, nm_e ⟨iv, nm_e h⟩⟩
    · subst h2
      exact br_f h1 ⟨iv, nm_e ⟨iv, nm_e h⟩⟩
  | succ r ih =>
    intro i hi
    have H := ih (i + 1) (by omega)
    have ci : (nI i).toNatClampNeg = i := ux_c (by omega)
    have ii : vp_in (nI i) 5 := vp_in_nI (by omega) (by decide)
    refine br_f (nI_ge (b := 5) (by omega) (by decide)) ⟨ii, ?_⟩
    rw [ci, ux_p1_at, ux_s1_at]
    by_cases h1 : pp i = nI p
    · rw [ux_p1_t h1] at H
      refine br_t h1 ⟨ii, nm_e ⟨ii, ?_⟩⟩
      by_cases h3 : st i = 3
      · rw [ux_s1_t h1 h3] at H
        exact br_t h3 ⟨ii, nm_e (nm_r (nI_1 i) H)⟩
      · rw [ux_s1_f (fun z => h3 z.2)] at H
        exact br_f h3 (nm_r (nI_1 i) H)
    · rw [ux_p1_f h1, ux_s1_f (fun z => h1 z.1)] at H
      exact br_f h1 (nm_r (nI_1 i) H)
theorem xs_e2 (hp : p < 5) (h : ∃ n, wX_endProcess_26 post (nI p) y ql pr ex n 0 kd ns np wo en st pp sp pc pg pn rg (ux_zp ds p) fi ow po pw pl qu ou) : ∀ r i, i + r = 4 → wX_endProcess_2 post (nI p) y ql pr ex (r + 1) (nI i) kd ns np wo en st pp sp pc pg pn rg (ux_zi ds p i) fi ow po pw pl qu ou := by
  intro r
  induction r with
  | zero =>
    intro i hi
    have ei : i = 4 := by omega
    subst ei
    exact br_t (by decide) h
  | succ r ih =>
    intro i hi
    have H := ih (i + 1) (by omega)
    rw [ux_zi_s] at H
    have e : nI p * 4 + nI i = nI (p * 4 + i) := by rw [ux_mul_l, nI_add]
    refine br_f (nI_ge (b := 4) (by omega) (by decide)) ?_
    rw [e, ux_c (n := p * 4 + i) (by omega)]
    exact ⟨vp_in_nI (by omega) (by decide), nm_e (nm_r (nI_1 i) H)⟩
theorem xa_en (hp : p < 5) (hown : pp p ≠ nI p) (hx : (pp p = -1 ∧ x = 0) ∨ (pp p ≠ -1 ∧ x = 3)) (h : post (ql, pr, ex, kd, ns, np, wo, en, upd (ux_s1 st pp p 5) p x, ux_p1 pp p 5, upd sp p y, pc, pg, pn, rg, ux_zp ds p, fi, ow, po, pw, pl, qu, ou)) : wpX_endProcess post (ql, pr, ex, kd, ns, np, wo, en, st, pp, sp, pc, pg, pn, rg, ds, fi, ow, po, pw, pl, qu, ou) (nI p) y := by
  have H := xs_e26 (ds := ux_zp ds p) hp hown hx h 5 0 (by omega)
  rw [ux_p1_0, ux_s1_0] at H
  exact ⟨5, xs_e2 hp ⟨6, H⟩ 4 0 (by omega)⟩
end UX14X
section UX14Y
variable {ql pr go : Int32} {ex : Int64} {kd ns le wo en et np st qp sp pn pg rg ee ds pc fi ow po pl pw qu ou : Nat → Int32}
variable {post : SY → Prop} {p n m i r : Nat} {x y : Int32}
theorem ya_jq (hp : p < 5) (hm : m < 6) (h : post (nI (m + 1), ex, pr, go, kd, le, wo, et, np, upd st p 1, qp, sp, pn, pg, rg, ee, pc, fi, ow, po, pl, pw, upd qu m (nI p), ou)) : wpY_join post (nI m, ex, pr, go, kd, le, wo, et, np, st, qp, sp, pn, pg, rg, ee, pc, fi, ow, po, pl, pw, qu, ou) (nI p) := by
  unfold wpY_join
  refine ⟨vp_in_nI hp (by decide), ?_⟩
  rw [ux_c (n := p) (by omega), ux_c (n := m) (by omega)]
  exact nm_e ⟨vp_in_nI hm (by decide), nm_e (nm_r (nI_1 m) h)⟩
theorem ys_lq (hm : m ≤ 5) (h : post (nI (ux_lk qu p m).2, ex, pr, go, kd, le, wo, et, np, st, qp, sp, pn, pg, rg, ee, pc, fi, ow, po, pl, pw, (ux_lk qu p m).1, ou)) : ∀ r k, k + r = m → wY_leave_4 post (nI p) (nI m) ex pr go (r + 1) (nI (ux_lk qu p k).2) (nI k) kd le wo et np st qp sp pn pg rg ee pc fi ow po pl pw ((ux_lk qu p k).1) ou := by
  intro r
  induction r with
  | zero =>
    intro k hk
    have ek : k = m := by omega
    subst ek
    exact br_t (nI_le (Nat.le_refl _) (by omega)) h
  | succ r ih =>
    intro k hk
    have H := ih (k + 1) (by omega)
    have hle := (ux_lk_le (q := qu) (p := p) k).1
    refine br_f (nI_ge (by omega) (by omega)) ⟨vp_in_nI (by omega) (by decide), ?_⟩
    rw [ux_c (n := k) (by omega)]
    by_cases hc : (ux_lk qu p k).1 k = nI p
    · rw [ux_lk_t hc] at H
      exact br_t hc (nm_r (nI_1 k) H)
    · rw [ux_lk_f hc] at H
      refine br_f hc ⟨vp_in_nI (by omega) (by decide), vp_in_nI (by omega) (by decide), ?_⟩
      rw [ux_c (n := (ux_lk qu p k).2) (by omega)]
      exact nm_e (nm_r (nI_1 _) (nm_r (nI_1 k) H))
theorem ya_lq (hm : m ≤ 5) (h : post (nI (ux_lk qu p m).2, ex, pr, go, kd, le, wo, et, np, st, qp, sp, pn, pg, rg, ee, pc, fi, ow, po, pl, pw, (ux_lk qu p m).1, ou)) : wpY_leave post (nI m, ex, pr, go, kd, le, wo, et, np, st, qp, sp, pn, pg, rg, ee, pc, fi, ow, po, pl, pw, qu, ou) (nI p) :=
  ⟨m + 1, ys_lq hm h m 0 (by omega)⟩
theorem ys_ld (hp : p < 5) (hn : n < 10) (h : post (ql, ex, pr, go, kd, le, wo, et, np, st, qp, upd sp p 0, pn, ux_cw pg wo (p * 20) (n * 20) 20, rg, ee, pc, fi, ow, po, pl, pw, qu, ou)) : ∀ r i, i + r = 20 → wY_load_14 post (nI p) (nI n) ql ex pr go (r + 1) (nI i) kd le wo et np st qp sp pn (ux_cw pg wo (p * 20) (n * 20) i) rg ee pc fi ow po pl pw qu ou := by
  intro r
  induction r with
  | zero =>
    intro i hi
    have ei : i = 20 := by omega
    subst ei
    refine br_t (by decide) ⟨vp_in_nI hp (by decide), ?_⟩
    rw [ux_c (n := p) (by omega)]
    exact nm_e h
  | succ r ih =>
    intro i hi
    have H := ih (i + 1) (by omega)
    have e1 : 20 * nI n + nI i = nI (n * 20 + i) := by rw [ux_l_mul, nI_add, Nat.mul_comm]
    have e2 : 20 * nI p + nI i = nI (p * 20 + i) := by rw [ux_l_mul, nI_add, Nat.mul_comm]
    refine br_f (nI_ge (b := 20) (by omega) (by decide)) ?_
    rw [e1, e2, ux_c (n := n * 20 + i) (by omega), ux_c (n := p * 20 + i) (by omega)]
    exact ⟨vp_in_nI (by omega) (by decide), vp_in_nI (by omega) (by decide), nm_e (nm_r (nI_1 i) H)⟩
theorem ya_ld (hp : p < 5) (hn : n < 10) (h : post (ql, ex, pr, go, kd, le, wo, et, np, st, qp, upd sp p 0, upd pn p (le n), ux_cw pg wo (p * 20) (n * 20) 20, rg, ee, pc, fi, ow, po, pl, pw, qu, ou)) : wpY_load post (ql, ex, pr, go, kd, le, wo, et, np, st, qp, sp, pn, pg, rg, ee, pc, fi, ow, po, pl, pw, qu, ou) (nI p) (nI n) := by
  unfold wpY_load
  refine ⟨vp_in_nI hn (by decide), vp_in_nI hp (by decide), ?_⟩
  rw [ux_c (n := p) (by omega), ux_c (n := n) (by omega)]
  exact nm_e ⟨21, ys_ld hp hn h 20 0 (by omega)⟩
theorem ys_e111 (hp : p < 5) (hK : ux_K kd) (hE : ux_E kd en) (hD : ux_D ds) (h : post (ql, ex, pr, go, ux_ck kd en ds fi, le, wo, ux_EN en, np, upd st p x, qp, upd sp p y, pn, pg, rg, ux_ED ds, pc, fi, ow, po, pl, pw, qu, ou)) : wY_end_111 post (nI p) y x (nI p) ql ex pr go kd le wo (ux_EN en) np st qp sp pn pg rg (ux_ED ds) pc fi ow po pl pw qu ou := by
  unfold wY_end_111
  rw [ux_c (n := p) (by omega)]
  exact ⟨vp_in_nI hp (by decide), nm_e ⟨vp_in_nI hp (by decide), nm_e (ya_cl hK hE hD h)⟩⟩
theorem ys_e33 (hp : p < 5) (hx : (¬ 0 ≤ qp p ∧ x = 0) ∨ (0 ≤ qp p ∧ x = 3)) (h : wY_end_111 post (nI p) y x (nI p) ql ex pr go kd le wo et np (ux_s2 st qp p 5) (ux_p2 st qp p 5) sp pn pg rg ee pc fi ow po pl pw qu ou) : ∀ r i, i + r = 5 → wY_end_33 post (nI p) y ql ex pr go (r + 1) (nI i) kd le wo et np (ux_s2 st qp p i) (ux_p2 st qp p i) sp pn pg rg ee pc fi ow po pl pw qu ou := by
  have cp : (nI p).toNatClampNeg = p := ux_c (by omega)
  have iv : vp_in (nI p) 5 := vp_in_nI hp (by decide)
  intro r
  induction r with
  | zero =>
    intro i hi
    have ei : i = 5 := by omega
    subst ei
    refine br_t (by decide) ⟨iv, ?_⟩
    have e1 : ux_p2 st qp p 5 p = qp p := if_neg (fun z => z.2.1 rfl)
    rw [cp, e1]
    rcases hx with ⟨h1, h2⟩ | ⟨h1, h2⟩
    · subst h2
      exact br_f h1 h
    · subst h2
      exact br_t h1 h
  | succ r ih =>
    intro i hi
    have H := ih (i + 1) (by omega)
    have ci : (nI i).toNatClampNeg = i := ux_c (by omega)
    have ii : vp_in (nI i) 5 := vp_in_nI (by omega) (by decide)
    refine br_f (nI_ge (b := 5) (by omega) (by decide)) ?_
    by_cases h0 : i = p
    · rw [ux_p2_f (fun z => z.1 h0), ux_s2_f (fun z => z.1 h0)] at H
      exact br_t (congrArg nI h0) (nm_r (nI_1 i) H)
    · refine br_f (ux_ne h0 (by omega) (by omega)) ⟨ii, ?_⟩
      rw [ci, ux_p2_at, ux_s2_at]
      by_cases hz : st i = 0
      · rw [ux_p2_f (fun z => z.2.1 hz), ux_s2_f (fun z => z.2.1 hz)] at H
        exact br_t hz (nm_r (nI_1 i) H)
      · refine br_f hz ⟨ii, ?_⟩
        by_cases h1 : qp i = nI p
        · rw [ux_p2_t h0 hz h1] at H
          refine br_t h1 ⟨ii, nm_e ⟨ii, ?_⟩⟩
          by_cases h3 : st i = 3
          · rw [ux_s2_t h0 hz h1 h3] at H
            exact br_t h3 ⟨ii, nm_e (nm_r (nI_1 i) H)⟩
          · rw [ux_s2_f (fun z => h3 z.2.2.2)] at H
            exact br_f h3 (nm_r (nI_1 i) H)
        · rw [ux_p2_f (fun z => h1 z.2.2), ux_s2_f (fun z => h1 z.2.2.1)] at H
          exact br_f h1 (nm_r (nI_1 i) H)
theorem ys_e9 (hp : p < 5) (h : ∃ n, wY_end_33 post (nI p) y ql ex pr go n 0 kd le wo et np st qp sp pn pg rg (ux_zp ee p) pc fi ow po pl pw qu ou) : ∀ r i, i + r = 4 → wY_end_9 post (nI p) y ql ex pr go (r + 1) (nI (p * 4 + i)) kd le wo et np st qp sp pn pg rg (ux_zi ee p i) pc fi ow po pl pw qu ou := by
  have e : 4 * nI p + 4 = nI (p * 4 + 4) := by rw [ux_l_mul, ux_add_l, Nat.mul_comm]
  intro r
  induction r with
  | zero =>
    intro i hi
    have ei : i = 4 := by omega
    subst ei
    exact br_t (by rw [e]; exact nI_le (Nat.le_refl _) (by omega)) h
  | succ r ih =>
    intro i hi
    have H := ih (i + 1) (by omega)
    rw [ux_zi_s] at H
    refine br_f (by rw [e]; exact nI_ge (by omega) (by omega)) ?_
    rw [ux_c (n := p * 4 + i) (by omega)]
    exact ⟨vp_in_nI (by omega) (by decide), nm_e (nm_r (nI_1 _) H)⟩
theorem ya_en (hm : m ≤ 5) (hp : p < 5) (hK : ux_K kd) (hE : ux_E kd en) (hD : ux_D ds) (hx : (¬ 0 ≤ qp p ∧ x = 0) ∨ (0 ≤ qp p ∧ x = 3))
    (h : post (nI (ux_lk qu p m).2, ex, pr, go, ux_ck kd en (ux_zp ds p) fi, le, wo, ux_EN en, np, upd (ux_s2 st qp p 5) p x, ux_p2 st qp p 5, upd sp p y, pn, pg, rg, ux_ED (ux_zp ds p), pc, fi, ow, po, pl, pw, (ux_lk qu p m).1, ou)) :
    wpY_end post (nI m, ex, pr, go, kd, le, wo, ux_EN en, np, st, qp, sp, pn, pg, rg, ux_ED ds, pc, fi, ow, po, pl, pw, qu, ou) (nI p) y := by
  unfold wpY_end
  refine ya_lq hm (nm_r (e' := nI (p * 4 + 0)) (by rw [ux_l_mul, Nat.mul_comm]; rfl) ⟨5, ys_e9 (ee := ux_ED ds) hp ?_ 4 0 (by omega)⟩)
  rw [← ux_ED_zp]
  have H := ys_e33 (y := y) (qu := (ux_lk qu p m).1) (ql := nI (ux_lk qu p m).2) hp hx (ys_e111 (st := ux_s2 st qp p 5) (qp := ux_p2 st qp p 5) hp hK hE (ux_D_zp (p := p) hD) h) 5 0 (by omega)
  rw [ux_p2_0, ux_s2_0] at H
  exact ⟨6, H⟩
end UX14Y
end
section
section UX15X
variable {ql pr : Int32} {ex : Int64} {kd ns np wo en st pp sp pc pg pn rg ds fi ow po pw pl qu ou : Nat → Int32}
variable {p s l a b : Nat} {x : Int32}
/-- p stands at its word s; the word's op is x, its registers a and b -/
def ux_in (sp pn pg : Nat → Int32) (p s l a b : Nat) (x : Int32) : Prop := p < 5 ∧ ux_ip sp pn p s l ∧ pg (p * 20 + s) &&& 31 = x ∧ a < 4 ∧ (pg (p * 20 + s) >>> ((5 : Int32) &&& 31)) &&& 3 = nI a ∧ b < 4 ∧ (pg (p * 20 + s) >>> ((7 : Int32) &&& 31)) &&& 3 = nI b
def xk (post : Int32 → SX → Prop) (p : Nat) (x : Int32) (u : SX) : Prop := match u with
  | (ql, pr, ex, kd, ns, np, wo, en, st, pp, sp, pc, pg, pn, rg, ds, fi, ow, po, pw, pl, qu, ou) => wX_execute_634 post (nI p) x ql pr ex kd ns np wo en st pp sp pc pg pn rg ds fi ow po pw pl qu ou
def xk3 (post : Int32 → SX → Prop) (p : Nat) (x r : Int32) (u : SX) : Prop := match u with
  | (ql, pr, ex, kd, ns, np, wo, en, st, pp, sp, pc, pg, pn, rg, ds, fi, ow, po, pw, pl, qu, ou) => wX_execute_634 post (nI p) x ql pr ex kd ns np wo en st pp sp pc pg pn (upd rg (p * 4 + 3) r) ds fi ow po pw pl qu ou
theorem x634a {post : Int32 → SX → Prop} (hp : p < 5) (hs : st p = 1) (hx : ¬ x = 25) (h : post 1 (ql, pr, ex, kd, ns, np, wo, en, st, pp, sp, pc, pg, pn, rg, ds, fi, ow, po, pw, pl, qu, ou)) : wX_execute_634 post (nI p) x ql pr ex kd ns np wo en st pp sp pc pg pn rg ds fi ow po pw pl qu ou := by
  unfold wX_execute_634
  rw [ux_c (by omega)]
  exact ⟨vp_in_nI hp (by decide), br_t hs (br_f hx h)⟩
theorem x634y {post : Int32 → SX → Prop} (hp : p < 5) (hs : st p = 1) (h : post 0 (ql, pr, ex, kd, ns, np, wo, en, st, pp, sp, pc, pg, pn, rg, ds, fi, ow, po, pw, pl, qu, ou)) : wX_execute_634 post (nI p) 25 ql pr ex kd ns np wo en st pp sp pc pg pn rg ds fi ow po pw pl qu ou := by
  unfold wX_execute_634
  rw [ux_c (by omega)]
  exact ⟨vp_in_nI hp (by decide), br_t hs (br_t rfl h)⟩
theorem x634e {post : Int32 → SX → Prop} (hp : p < 5) (hs : st p ≠ 1) (h : post 0 (ql, pr, ex, kd, ns, np, wo, en, st, pp, sp, pc, pg, pn, rg, ds, fi, ow, po, pw, pl, qu, ou)) : wX_execute_634 post (nI p) x ql pr ex kd ns np wo en st pp sp pc pg pn rg ds fi ow po pw pl qu ou := by
  unfold wX_execute_634
  rw [ux_c (by omega)]
  exact ⟨vp_in_nI hp (by decide), br_f hs h⟩

theorem xj_0 {post : Int32 → SX → Prop} (H : ux_in sp pn pg p s l a b 0) (h : ∀ Q : SX → Prop, (∀ u, xk post p 0 u → Q u) → wpX_endProcess Q (ql, pr, ex, kd, ns, np, wo, en, st, pp, upd sp p (sp p + 1), pc, pg, pn, rg, ds, fi, ow, po, pw, pl, qu, ou) (nI p) (rg (p * 4 + a))) : wpX_execute post (ql, pr, ex, kd, ns, np, wo, en, st, pp, sp, pc, pg, pn, rg, ds, fi, ow, po, pw, pl, qu, ou) (nI p) := by
  obtain ⟨hp, hi, ho, ha, ea, hb, eb⟩ := H
  obtain ⟨h1, h2, h3, h4⟩ := id hi
  have cl : (nI p).toNatClampNeg = p := ux_c (by omega)
  have iv : vp_in (nI p) 5 := vp_in_nI hp (by decide)
  have e20 : nI p * 20 + sp p = nI (p * 20 + s) := by rw [h3, ux_mul_l, nI_add]
  have ea4 : nI p * 4 + ((pg (p * 20 + s) >>> ((5 : Int32) &&& 31)) &&& 3) = nI (p * 4 + a) := by rw [ea, ux_mul_l, nI_add]
  have eb4 : nI p * 4 + ((pg (p * 20 + s) >>> ((7 : Int32) &&& 31)) &&& 3) = nI (p * 4 + b) := by rw [eb, ux_mul_l, nI_add]
  have e34 : nI p * 4 + 3 = nI (p * 4 + 3) := by rw [ux_mul_l, ux_add_l]
  have ca : (nI (p * 4 + a)).toNatClampNeg = p * 4 + a := ux_c (by omega)
  have cb : (nI (p * 4 + b)).toNatClampNeg = p * 4 + b := ux_c (by omega)
  have c3 : (nI (p * 4 + 3)).toNatClampNeg = p * 4 + 3 := ux_c (by omega)
  have va : vp_in (nI (p * 4 + a)) 20 := vp_in_nI (by omega) (by decide)
  have vb : vp_in (nI (p * 4 + b)) 20 := vp_in_nI (by omega) (by decide)
  have v3 : vp_in (nI (p * 4 + 3)) 20 := vp_in_nI (by omega) (by decide)
  unfold wpX_execute
  refine xa_ip1 hp hi (br_f (by decide) ⟨iv, ?_⟩)
  rw [cl, e20, ux_c (n := p * 20 + s) (by omega)]
  refine ⟨vp_in_nI (by omega) (by decide), nm_e (nm_r ho (nm_r ea4 (nm_r eb4 (nm_r e34 (nm_e ⟨iv, iv, nm_e (br_f (by decide) <| br_f (by decide) <| br_t rfl <| ?_)⟩)))))⟩
  rw [ca]
  refine ⟨va, ?_⟩
  exact h _ (fun u hu => hu)
theorem xj_10 {post : Int32 → SX → Prop} (H : ux_in sp pn pg p s l a b 10) (h : ∀ Q : SX → Prop, (∀ u, xk post p 10 u → Q u) → wpX_fork Q (ql, pr, ex, kd, ns, np, wo, en, st, pp, upd sp p (sp p + 1), pc, pg, pn, rg, ds, fi, ow, po, pw, pl, qu, ou) (nI p) (nI (p * 4 + a))) : wpX_execute post (ql, pr, ex, kd, ns, np, wo, en, st, pp, sp, pc, pg, pn, rg, ds, fi, ow, po, pw, pl, qu, ou) (nI p) := by
  obtain ⟨hp, hi, ho, ha, ea, hb, eb⟩ := H
  obtain ⟨h1, h2, h3, h4⟩ := id hi
  have cl : (nI p).toNatClampNeg = p := ux_c (by omega)
  have iv : vp_in (nI p) 5 := vp_in_nI hp (by decide)
  have e20 : nI p * 20 + sp p = nI (p * 20 + s) := by rw [h3, ux_mul_l, nI_add]
  have ea4 : nI p * 4 + ((pg (p * 20 + s) >>> ((5 : Int32) &&& 31)) &&& 3) = nI (p * 4 + a) := by rw [ea, ux_mul_l, nI_add]
  have eb4 : nI p * 4 + ((pg (p * 20 + s) >>> ((7 : Int32) &&& 31)) &&& 3) = nI (p * 4 + b) := by rw [eb, ux_mul_l, nI_add]
  have e34 : nI p * 4 + 3 = nI (p * 4 + 3) := by rw [ux_mul_l, ux_add_l]
  have ca : (nI (p * 4 + a)).toNatClampNeg = p * 4 + a := ux_c (by omega)
  have cb : (nI (p * 4 + b)).toNatClampNeg = p * 4 + b := ux_c (by omega)
  have c3 : (nI (p * 4 + 3)).toNatClampNeg = p * 4 + 3 := ux_c (by omega)
  have va : vp_in (nI (p * 4 + a)) 20 := vp_in_nI (by omega) (by decide)
  have vb : vp_in (nI (p * 4 + b)) 20 := vp_in_nI (by omega) (by decide)
  have v3 : vp_in (nI (p * 4 + 3)) 20 := vp_in_nI (by omega) (by decide)
  unfold wpX_execute
  refine xa_ip1 hp hi (br_f (by decide) ⟨iv, ?_⟩)
  rw [cl, e20, ux_c (n := p * 20 + s) (by omega)]
  refine ⟨vp_in_nI (by omega) (by decide), nm_e (nm_r ho (nm_r ea4 (nm_r eb4 (nm_r e34 (nm_e ⟨iv, iv, nm_e (br_f (by decide) <| br_f (by decide) <| br_f (by decide) <| br_f (by decide) <| br_f (by decide) <| br_f (by decide) <| br_f (by decide) <| br_f (by decide) <| br_f (by decide) <| br_f (by decide) <| br_f (by decide) <| br_f (by decide) <| br_t rfl <| ?_)⟩)))))⟩
  refine ?_
  exact h _ (fun u hu => hu)
theorem xj_11 {post : Int32 → SX → Prop} (H : ux_in sp pn pg p s l a b 11) (h : ∀ Q : SX → Prop, (∀ u, xk post p 11 u → Q u) → wpX_takeEndedChild Q (ql, pr, ex, kd, ns, np, wo, en, st, pp, upd sp p (sp p + 1), pc, pg, pn, rg, ds, fi, ow, po, pw, pl, qu, ou) (nI p) (nI (p * 4 + a)) (nI (p * 4 + b))) : wpX_execute post (ql, pr, ex, kd, ns, np, wo, en, st, pp, sp, pc, pg, pn, rg, ds, fi, ow, po, pw, pl, qu, ou) (nI p) := by
  obtain ⟨hp, hi, ho, ha, ea, hb, eb⟩ := H
  obtain ⟨h1, h2, h3, h4⟩ := id hi
  have cl : (nI p).toNatClampNeg = p := ux_c (by omega)
  have iv : vp_in (nI p) 5 := vp_in_nI hp (by decide)
  have e20 : nI p * 20 + sp p = nI (p * 20 + s) := by rw [h3, ux_mul_l, nI_add]
  have ea4 : nI p * 4 + ((pg (p * 20 + s) >>> ((5 : Int32) &&& 31)) &&& 3) = nI (p * 4 + a) := by rw [ea, ux_mul_l, nI_add]
  have eb4 : nI p * 4 + ((pg (p * 20 + s) >>> ((7 : Int32) &&& 31)) &&& 3) = nI (p * 4 + b) := by rw [eb, ux_mul_l, nI_add]
  have e34 : nI p * 4 + 3 = nI (p * 4 + 3) := by rw [ux_mul_l, ux_add_l]
  have ca : (nI (p * 4 + a)).toNatClampNeg = p * 4 + a := ux_c (by omega)
  have cb : (nI (p * 4 + b)).toNatClampNeg = p * 4 + b := ux_c (by omega)
  have c3 : (nI (p * 4 + 3)).toNatClampNeg = p * 4 + 3 := ux_c (by omega)
  have va : vp_in (nI (p * 4 + a)) 20 := vp_in_nI (by omega) (by decide)
  have vb : vp_in (nI (p * 4 + b)) 20 := vp_in_nI (by omega) (by decide)
  have v3 : vp_in (nI (p * 4 + 3)) 20 := vp_in_nI (by omega) (by decide)
  unfold wpX_execute
  refine xa_ip1 hp hi (br_f (by decide) ⟨iv, ?_⟩)
  rw [cl, e20, ux_c (n := p * 20 + s) (by omega)]
  refine ⟨vp_in_nI (by omega) (by decide), nm_e (nm_r ho (nm_r ea4 (nm_r eb4 (nm_r e34 (nm_e ⟨iv, iv, nm_e (br_f (by decide) <| br_f (by decide) <| br_f (by decide) <| br_f (by decide) <| br_f (by decide) <| br_f (by decide) <| br_f (by decide) <| br_f (by decide) <| br_f (by decide) <| br_f (by decide) <| br_f (by decide) <| br_f (by decide) <| br_f (by decide) <| br_t rfl <| ?_)⟩)))))⟩
  refine ?_
  exact h _ (fun u hu => hu)
theorem xj_12 {post : Int32 → SX → Prop} (H : ux_in sp pn pg p s l a b 12) (h : ∀ Q : SX → Prop, (∀ u, xk post p 12 u → Q u) → wpX_executeFile Q (ql, pr, ex, kd, ns, np, wo, en, st, pp, upd sp p (sp p + 1), pc, pg, pn, rg, ds, fi, ow, po, pw, pl, qu, ou) (nI p) (rg (p * 4 + a))) : wpX_execute post (ql, pr, ex, kd, ns, np, wo, en, st, pp, sp, pc, pg, pn, rg, ds, fi, ow, po, pw, pl, qu, ou) (nI p) := by
  obtain ⟨hp, hi, ho, ha, ea, hb, eb⟩ := H
  obtain ⟨h1, h2, h3, h4⟩ := id hi
  have cl : (nI p).toNatClampNeg = p := ux_c (by omega)
  have iv : vp_in (nI p) 5 := vp_in_nI hp (by decide)
  have e20 : nI p * 20 + sp p = nI (p * 20 + s) := by rw [h3, ux_mul_l, nI_add]
  have ea4 : nI p * 4 + ((pg (p * 20 + s) >>> ((5 : Int32) &&& 31)) &&& 3) = nI (p * 4 + a) := by rw [ea, ux_mul_l, nI_add]
  have eb4 : nI p * 4 + ((pg (p * 20 + s) >>> ((7 : Int32) &&& 31)) &&& 3) = nI (p * 4 + b) := by rw [eb, ux_mul_l, nI_add]
  have e34 : nI p * 4 + 3 = nI (p * 4 + 3) := by rw [ux_mul_l, ux_add_l]
  have ca : (nI (p * 4 + a)).toNatClampNeg = p * 4 + a := ux_c (by omega)
  have cb : (nI (p * 4 + b)).toNatClampNeg = p * 4 + b := ux_c (by omega)
  have c3 : (nI (p * 4 + 3)).toNatClampNeg = p * 4 + 3 := ux_c (by omega)
  have va : vp_in (nI (p * 4 + a)) 20 := vp_in_nI (by omega) (by decide)
  have vb : vp_in (nI (p * 4 + b)) 20 := vp_in_nI (by omega) (by decide)
  have v3 : vp_in (nI (p * 4 + 3)) 20 := vp_in_nI (by omega) (by decide)
  unfold wpX_execute
  refine xa_ip1 hp hi (br_f (by decide) ⟨iv, ?_⟩)
  rw [cl, e20, ux_c (n := p * 20 + s) (by omega)]
  refine ⟨vp_in_nI (by omega) (by decide), nm_e (nm_r ho (nm_r ea4 (nm_r eb4 (nm_r e34 (nm_e ⟨iv, iv, nm_e (br_f (by decide) <| br_f (by decide) <| br_f (by decide) <| br_f (by decide) <| br_f (by decide) <| br_f (by decide) <| br_f (by decide) <| br_f (by decide) <| br_f (by decide) <| br_f (by decide) <| br_f (by decide) <| br_f (by decide) <| br_f (by decide) <| br_f (by decide) <| br_t rfl <| ?_)⟩)))))⟩
  rw [ca]
  refine ⟨va, ?_⟩
  exact h _ (fun u hu => hu)
theorem xj_13 {post : Int32 → SX → Prop} (H : ux_in sp pn pg p s l a b 13) (h : ∀ Q : SX → Prop, (∀ u, xk post p 13 u → Q u) → wpX_open Q (ql, pr, ex, kd, ns, np, wo, en, st, pp, upd sp p (sp p + 1), pc, pg, pn, rg, ds, fi, ow, po, pw, pl, qu, ou) (nI p) (nI (p * 4 + a)) ((pg (p * 20 + s) >>> ((9 : Int32) &&& 31)) &&& 3)) : wpX_execute post (ql, pr, ex, kd, ns, np, wo, en, st, pp, sp, pc, pg, pn, rg, ds, fi, ow, po, pw, pl, qu, ou) (nI p) := by
  obtain ⟨hp, hi, ho, ha, ea, hb, eb⟩ := H
  obtain ⟨h1, h2, h3, h4⟩ := id hi
  have cl : (nI p).toNatClampNeg = p := ux_c (by omega)
  have iv : vp_in (nI p) 5 := vp_in_nI hp (by decide)
  have e20 : nI p * 20 + sp p = nI (p * 20 + s) := by rw [h3, ux_mul_l, nI_add]
  have ea4 : nI p * 4 + ((pg (p * 20 + s) >>> ((5 : Int32) &&& 31)) &&& 3) = nI (p * 4 + a) := by rw [ea, ux_mul_l, nI_add]
  have eb4 : nI p * 4 + ((pg (p * 20 + s) >>> ((7 : Int32) &&& 31)) &&& 3) = nI (p * 4 + b) := by rw [eb, ux_mul_l, nI_add]
  have e34 : nI p * 4 + 3 = nI (p * 4 + 3) := by rw [ux_mul_l, ux_add_l]
  have ca : (nI (p * 4 + a)).toNatClampNeg = p * 4 + a := ux_c (by omega)
  have cb : (nI (p * 4 + b)).toNatClampNeg = p * 4 + b := ux_c (by omega)
  have c3 : (nI (p * 4 + 3)).toNatClampNeg = p * 4 + 3 := ux_c (by omega)
  have va : vp_in (nI (p * 4 + a)) 20 := vp_in_nI (by omega) (by decide)
  have vb : vp_in (nI (p * 4 + b)) 20 := vp_in_nI (by omega) (by decide)
  have v3 : vp_in (nI (p * 4 + 3)) 20 := vp_in_nI (by omega) (by decide)
  unfold wpX_execute
  refine xa_ip1 hp hi (br_f (by decide) ⟨iv, ?_⟩)
  rw [cl, e20, ux_c (n := p * 20 + s) (by omega)]
  refine ⟨vp_in_nI (by omega) (by decide), nm_e (nm_r ho (nm_r ea4 (nm_r eb4 (nm_r e34 (nm_e ⟨iv, iv, nm_e (br_f (by decide) <| br_f (by decide) <| br_f (by decide) <| br_f (by decide) <| br_f (by decide) <| br_f (by decide) <| br_f (by decide) <| br_f (by decide) <| br_f (by decide) <| br_f (by decide) <| br_f (by decide) <| br_f (by decide) <| br_f (by decide) <| br_f (by decide) <| br_f (by decide) <| br_t rfl <| ?_)⟩)))))⟩
  refine ?_
  exact h _ (fun u hu => hu)
theorem xj_15 {post : Int32 → SX → Prop} (H : ux_in sp pn pg p s l a b 15) (h : ∀ Q : SX → Prop, (∀ u, xk post p 15 u → Q u) → wpX_read Q (ql, pr, ex, kd, ns, np, wo, en, st, pp, upd sp p (sp p + 1), pc, pg, pn, rg, ds, fi, ow, po, pw, pl, qu, ou) (nI p) (nI (p * 4 + a)) (nI (p * 4 + b))) : wpX_execute post (ql, pr, ex, kd, ns, np, wo, en, st, pp, sp, pc, pg, pn, rg, ds, fi, ow, po, pw, pl, qu, ou) (nI p) := by
  obtain ⟨hp, hi, ho, ha, ea, hb, eb⟩ := H
  obtain ⟨h1, h2, h3, h4⟩ := id hi
  have cl : (nI p).toNatClampNeg = p := ux_c (by omega)
  have iv : vp_in (nI p) 5 := vp_in_nI hp (by decide)
  have e20 : nI p * 20 + sp p = nI (p * 20 + s) := by rw [h3, ux_mul_l, nI_add]
  have ea4 : nI p * 4 + ((pg (p * 20 + s) >>> ((5 : Int32) &&& 31)) &&& 3) = nI (p * 4 + a) := by rw [ea, ux_mul_l, nI_add]
  have eb4 : nI p * 4 + ((pg (p * 20 + s) >>> ((7 : Int32) &&& 31)) &&& 3) = nI (p * 4 + b) := by rw [eb, ux_mul_l, nI_add]
  have e34 : nI p * 4 + 3 = nI (p * 4 + 3) := by rw [ux_mul_l, ux_add_l]
  have ca : (nI (p * 4 + a)).toNatClampNeg = p * 4 + a := ux_c (by omega)
  have cb : (nI (p * 4 + b)).toNatClampNeg = p * 4 + b := ux_c (by omega)
  have c3 : (nI (p * 4 + 3)).toNatClampNeg = p * 4 + 3 := ux_c (by omega)
  have va : vp_in (nI (p * 4 + a)) 20 := vp_in_nI (by omega) (by decide)
  have vb : vp_in (nI (p * 4 + b)) 20 := vp_in_nI (by omega) (by decide)
  have v3 : vp_in (nI (p * 4 + 3)) 20 := vp_in_nI (by omega) (by decide)
  unfold wpX_execute
  refine xa_ip1 hp hi (br_f (by decide) ⟨iv, ?_⟩)
  rw [cl, e20, ux_c (n := p * 20 + s) (by omega)]
  refine ⟨vp_in_nI (by omega) (by decide), nm_e (nm_r ho (nm_r ea4 (nm_r eb4 (nm_r e34 (nm_e ⟨iv, iv, nm_e (br_f (by decide) <| br_f (by decide) <| br_f (by decide) <| br_f (by decide) <| br_f (by decide) <| br_f (by decide) <| br_f (by decide) <| br_f (by decide) <| br_f (by decide) <| br_f (by decide) <| br_f (by decide) <| br_f (by decide) <| br_f (by decide) <| br_f (by decide) <| br_f (by decide) <| br_f (by decide) <| br_f (by decide) <| br_t rfl <| ?_)⟩)))))⟩
  refine ?_
  exact h _ (fun u hu => hu)
theorem xj_16 {post : Int32 → SX → Prop} (H : ux_in sp pn pg p s l a b 16) (h : ∀ Q : SX → Prop, (∀ u, xk post p 16 u → Q u) → wpX_write Q (ql, pr, ex, kd, ns, np, wo, en, st, pp, upd sp p (sp p + 1), pc, pg, pn, rg, ds, fi, ow, po, pw, pl, qu, ou) (nI p) (nI (p * 4 + a)) (nI (p * 4 + b))) : wpX_execute post (ql, pr, ex, kd, ns, np, wo, en, st, pp, sp, pc, pg, pn, rg, ds, fi, ow, po, pw, pl, qu, ou) (nI p) := by
  obtain ⟨hp, hi, ho, ha, ea, hb, eb⟩ := H
  obtain ⟨h1, h2, h3, h4⟩ := id hi
  have cl : (nI p).toNatClampNeg = p := ux_c (by omega)
  have iv : vp_in (nI p) 5 := vp_in_nI hp (by decide)
  have e20 : nI p * 20 + sp p = nI (p * 20 + s) := by rw [h3, ux_mul_l, nI_add]
  have ea4 : nI p * 4 + ((pg (p * 20 + s) >>> ((5 : Int32) &&& 31)) &&& 3) = nI (p * 4 + a) := by rw [ea, ux_mul_l, nI_add]
  have eb4 : nI p * 4 + ((pg (p * 20 + s) >>> ((7 : Int32) &&& 31)) &&& 3) = nI (p * 4 + b) := by rw [eb, ux_mul_l, nI_add]
  have e34 : nI p * 4 + 3 = nI (p * 4 + 3) := by rw [ux_mul_l, ux_add_l]
  have ca : (nI (p * 4 + a)).toNatClampNeg = p * 4 + a := ux_c (by omega)
  have cb : (nI (p * 4 + b)).toNatClampNeg = p * 4 + b := ux_c (by omega)
  have c3 : (nI (p * 4 + 3)).toNatClampNeg = p * 4 + 3 := ux_c (by omega)
  have va : vp_in (nI (p * 4 + a)) 20 := vp_in_nI (by omega) (by decide)
  have vb : vp_in (nI (p * 4 + b)) 20 := vp_in_nI (by omega) (by decide)
  have v3 : vp_in (nI (p * 4 + 3)) 20 := vp_in_nI (by omega) (by decide)
  unfold wpX_execute
  refine xa_ip1 hp hi (br_f (by decide) ⟨iv, ?_⟩)
  rw [cl, e20, ux_c (n := p * 20 + s) (by omega)]
  refine ⟨vp_in_nI (by omega) (by decide), nm_e (nm_r ho (nm_r ea4 (nm_r eb4 (nm_r e34 (nm_e ⟨iv, iv, nm_e (br_f (by decide) <| br_f (by decide) <| br_f (by decide) <| br_f (by decide) <| br_f (by decide) <| br_f (by decide) <| br_f (by decide) <| br_f (by decide) <| br_f (by decide) <| br_f (by decide) <| br_f (by decide) <| br_f (by decide) <| br_f (by decide) <| br_f (by decide) <| br_f (by decide) <| br_f (by decide) <| br_f (by decide) <| br_f (by decide) <| br_t rfl <| ?_)⟩)))))⟩
  refine ?_
  exact h _ (fun u hu => hu)
theorem xj_17 {post : Int32 → SX → Prop} (H : ux_in sp pn pg p s l a b 17) (h : ∀ Q : SX → Prop, (∀ u, xk post p 17 u → Q u) → wpX_openPipe Q (ql, pr, ex, kd, ns, np, wo, en, st, pp, upd sp p (sp p + 1), pc, pg, pn, rg, ds, fi, ow, po, pw, pl, qu, ou) (nI p) (nI (p * 4 + a)) (nI (p * 4 + b))) : wpX_execute post (ql, pr, ex, kd, ns, np, wo, en, st, pp, sp, pc, pg, pn, rg, ds, fi, ow, po, pw, pl, qu, ou) (nI p) := by
  obtain ⟨hp, hi, ho, ha, ea, hb, eb⟩ := H
  obtain ⟨h1, h2, h3, h4⟩ := id hi
  have cl : (nI p).toNatClampNeg = p := ux_c (by omega)
  have iv : vp_in (nI p) 5 := vp_in_nI hp (by decide)
  have e20 : nI p * 20 + sp p = nI (p * 20 + s) := by rw [h3, ux_mul_l, nI_add]
  have ea4 : nI p * 4 + ((pg (p * 20 + s) >>> ((5 : Int32) &&& 31)) &&& 3) = nI (p * 4 + a) := by rw [ea, ux_mul_l, nI_add]
  have eb4 : nI p * 4 + ((pg (p * 20 + s) >>> ((7 : Int32) &&& 31)) &&& 3) = nI (p * 4 + b) := by rw [eb, ux_mul_l, nI_add]
  have e34 : nI p * 4 + 3 = nI (p * 4 + 3) := by rw [ux_mul_l, ux_add_l]
  have ca : (nI (p * 4 + a)).toNatClampNeg = p * 4 + a := ux_c (by omega)
  have cb : (nI (p * 4 + b)).toNatClampNeg = p * 4 + b := ux_c (by omega)
  have c3 : (nI (p * 4 + 3)).toNatClampNeg = p * 4 + 3 := ux_c (by omega)
  have va : vp_in (nI (p * 4 + a)) 20 := vp_in_nI (by omega) (by decide)
  have vb : vp_in (nI (p * 4 + b)) 20 := vp_in_nI (by omega) (by decide)
  have v3 : vp_in (nI (p * 4 + 3)) 20 := vp_in_nI (by omega) (by decide)
  unfold wpX_execute
  refine xa_ip1 hp hi (br_f (by decide) ⟨iv, ?_⟩)
  rw [cl, e20, ux_c (n := p * 20 + s) (by omega)]
  refine ⟨vp_in_nI (by omega) (by decide), nm_e (nm_r ho (nm_r ea4 (nm_r eb4 (nm_r e34 (nm_e ⟨iv, iv, nm_e (br_f (by decide) <| br_f (by decide) <| br_f (by decide) <| br_f (by decide) <| br_f (by decide) <| br_f (by decide) <| br_f (by decide) <| br_f (by decide) <| br_f (by decide) <| br_f (by decide) <| br_f (by decide) <| br_f (by decide) <| br_f (by decide) <| br_f (by decide) <| br_f (by decide) <| br_f (by decide) <| br_f (by decide) <| br_f (by decide) <| br_f (by decide) <| br_t rfl <| ?_)⟩)))))⟩
  refine ?_
  exact h _ (fun u hu => hu)
theorem xj_18 {post : Int32 → SX → Prop} (H : ux_in sp pn pg p s l a b 18) (h : ∀ Q : SX → Prop, (∀ u, xk post p 18 u → Q u) → wpX_copyDescriptor Q (ql, pr, ex, kd, ns, np, wo, en, st, pp, upd sp p (sp p + 1), pc, pg, pn, rg, ds, fi, ow, po, pw, pl, qu, ou) (nI p) (nI (p * 4 + a)) (nI (p * 4 + b))) : wpX_execute post (ql, pr, ex, kd, ns, np, wo, en, st, pp, sp, pc, pg, pn, rg, ds, fi, ow, po, pw, pl, qu, ou) (nI p) := by
  obtain ⟨hp, hi, ho, ha, ea, hb, eb⟩ := H
  obtain ⟨h1, h2, h3, h4⟩ := id hi
  have cl : (nI p).toNatClampNeg = p := ux_c (by omega)
  have iv : vp_in (nI p) 5 := vp_in_nI hp (by decide)
  have e20 : nI p * 20 + sp p = nI (p * 20 + s) := by rw [h3, ux_mul_l, nI_add]
  have ea4 : nI p * 4 + ((pg (p * 20 + s) >>> ((5 : Int32) &&& 31)) &&& 3) = nI (p * 4 + a) := by rw [ea, ux_mul_l, nI_add]
  have eb4 : nI p * 4 + ((pg (p * 20 + s) >>> ((7 : Int32) &&& 31)) &&& 3) = nI (p * 4 + b) := by rw [eb, ux_mul_l, nI_add]
  have e34 : nI p * 4 + 3 = nI (p * 4 + 3) := by rw [ux_mul_l, ux_add_l]
  have ca : (nI (p * 4 + a)).toNatClampNeg = p * 4 + a := ux_c (by omega)
  have cb : (nI (p * 4 + b)).toNatClampNeg = p * 4 + b := ux_c (by omega)
  have c3 : (nI (p * 4 + 3)).toNatClampNeg = p * 4 + 3 := ux_c (by omega)
  have va : vp_in (nI (p * 4 + a)) 20 := vp_in_nI (by omega) (by decide)
  have vb : vp_in (nI (p * 4 + b)) 20 := vp_in_nI (by omega) (by decide)
  have v3 : vp_in (nI (p * 4 + 3)) 20 := vp_in_nI (by omega) (by decide)
  unfold wpX_execute
  refine xa_ip1 hp hi (br_f (by decide) ⟨iv, ?_⟩)
  rw [cl, e20, ux_c (n := p * 20 + s) (by omega)]
  refine ⟨vp_in_nI (by omega) (by decide), nm_e (nm_r ho (nm_r ea4 (nm_r eb4 (nm_r e34 (nm_e ⟨iv, iv, nm_e (br_f (by decide) <| br_f (by decide) <| br_f (by decide) <| br_f (by decide) <| br_f (by decide) <| br_f (by decide) <| br_f (by decide) <| br_f (by decide) <| br_f (by decide) <| br_f (by decide) <| br_f (by decide) <| br_f (by decide) <| br_f (by decide) <| br_f (by decide) <| br_f (by decide) <| br_f (by decide) <| br_f (by decide) <| br_f (by decide) <| br_f (by decide) <| br_f (by decide) <| br_t rfl <| ?_)⟩)))))⟩
  refine ?_
  exact h _ (fun u hu => hu)
theorem xj_24 {post : Int32 → SX → Prop} (H : ux_in sp pn pg p s l a b 24) (h : ∀ Q : SX → Prop, (∀ u, xk post p 24 u → Q u) → wpX_print Q (ql, pr, ex, kd, ns, np, wo, en, st, pp, upd sp p (sp p + 1), pc, pg, pn, rg, ds, fi, ow, po, pw, pl, qu, ou) (rg (p * 4 + a))) : wpX_execute post (ql, pr, ex, kd, ns, np, wo, en, st, pp, sp, pc, pg, pn, rg, ds, fi, ow, po, pw, pl, qu, ou) (nI p) := by
  obtain ⟨hp, hi, ho, ha, ea, hb, eb⟩ := H
  obtain ⟨h1, h2, h3, h4⟩ := id hi
  have cl : (nI p).toNatClampNeg = p := ux_c (by omega)
  have iv : vp_in (nI p) 5 := vp_in_nI hp (by decide)
  have e20 : nI p * 20 + sp p = nI (p * 20 + s) := by rw [h3, ux_mul_l, nI_add]
  have ea4 : nI p * 4 + ((pg (p * 20 + s) >>> ((5 : Int32) &&& 31)) &&& 3) = nI (p * 4 + a) := by rw [ea, ux_mul_l, nI_add]
  have eb4 : nI p * 4 + ((pg (p * 20 + s) >>> ((7 : Int32) &&& 31)) &&& 3) = nI (p * 4 + b) := by rw [eb, ux_mul_l, nI_add]
  have e34 : nI p * 4 + 3 = nI (p * 4 + 3) := by rw [ux_mul_l, ux_add_l]
  have ca : (nI (p * 4 + a)).toNatClampNeg = p * 4 + a := ux_c (by omega)
  have cb : (nI (p * 4 + b)).toNatClampNeg = p * 4 + b := ux_c (by omega)
  have c3 : (nI (p * 4 + 3)).toNatClampNeg = p * 4 + 3 := ux_c (by omega)
  have va : vp_in (nI (p * 4 + a)) 20 := vp_in_nI (by omega) (by decide)
  have vb : vp_in (nI (p * 4 + b)) 20 := vp_in_nI (by omega) (by decide)
  have v3 : vp_in (nI (p * 4 + 3)) 20 := vp_in_nI (by omega) (by decide)
  unfold wpX_execute
  refine xa_ip1 hp hi (br_f (by decide) ⟨iv, ?_⟩)
  rw [cl, e20, ux_c (n := p * 20 + s) (by omega)]
  refine ⟨vp_in_nI (by omega) (by decide), nm_e (nm_r ho (nm_r ea4 (nm_r eb4 (nm_r e34 (nm_e ⟨iv, iv, nm_e (br_f (by decide) <| br_f (by decide) <| br_f (by decide) <| br_f (by decide) <| br_f (by decide) <| br_f (by decide) <| br_f (by decide) <| br_f (by decide) <| br_f (by decide) <| br_f (by decide) <| br_f (by decide) <| br_f (by decide) <| br_f (by decide) <| br_f (by decide) <| br_f (by decide) <| br_f (by decide) <| br_f (by decide) <| br_f (by decide) <| br_f (by decide) <| br_f (by decide) <| br_f (by decide) <| br_f (by decide) <| br_f (by decide) <| br_f (by decide) <| br_f (by decide) <| br_f (by decide) <| br_t rfl <| ?_)⟩)))))⟩
  rw [ca]
  refine ⟨va, ?_⟩
  exact h _ (fun u hu => hu)
theorem xj_14 {post : Int32 → SX → Prop} (H : ux_in sp pn pg p s l a b 14) (h : ∀ Q : Int32 → SX → Prop, (∀ r u, xk3 post p 14 r u → Q r u) → wpX_close Q (ql, pr, ex, kd, ns, np, wo, en, st, pp, upd sp p (sp p + 1), pc, pg, pn, rg, ds, fi, ow, po, pw, pl, qu, ou) (nI p) (rg (p * 4 + b))) : wpX_execute post (ql, pr, ex, kd, ns, np, wo, en, st, pp, sp, pc, pg, pn, rg, ds, fi, ow, po, pw, pl, qu, ou) (nI p) := by
  obtain ⟨hp, hi, ho, ha, ea, hb, eb⟩ := H
  obtain ⟨h1, h2, h3, h4⟩ := id hi
  have cl : (nI p).toNatClampNeg = p := ux_c (by omega)
  have iv : vp_in (nI p) 5 := vp_in_nI hp (by decide)
  have e20 : nI p * 20 + sp p = nI (p * 20 + s) := by rw [h3, ux_mul_l, nI_add]
  have ea4 : nI p * 4 + ((pg (p * 20 + s) >>> ((5 : Int32) &&& 31)) &&& 3) = nI (p * 4 + a) := by rw [ea, ux_mul_l, nI_add]
  have eb4 : nI p * 4 + ((pg (p * 20 + s) >>> ((7 : Int32) &&& 31)) &&& 3) = nI (p * 4 + b) := by rw [eb, ux_mul_l, nI_add]
  have e34 : nI p * 4 + 3 = nI (p * 4 + 3) := by rw [ux_mul_l, ux_add_l]
  have ca : (nI (p * 4 + a)).toNatClampNeg = p * 4 + a := ux_c (by omega)
  have cb : (nI (p * 4 + b)).toNatClampNeg = p * 4 + b := ux_c (by omega)
  have c3 : (nI (p * 4 + 3)).toNatClampNeg = p * 4 + 3 := ux_c (by omega)
  have va : vp_in (nI (p * 4 + a)) 20 := vp_in_nI (by omega) (by decide)
  have vb : vp_in (nI (p * 4 + b)) 20 := vp_in_nI (by omega) (by decide)
  have v3 : vp_in (nI (p * 4 + 3)) 20 := vp_in_nI (by omega) (by decide)
  unfold wpX_execute
  refine xa_ip1 hp hi (br_f (by decide) ⟨iv, ?_⟩)
  rw [cl, e20, ux_c (n := p * 20 + s) (by omega)]
  refine ⟨vp_in_nI (by omega) (by decide), nm_e (nm_r ho (nm_r ea4 (nm_r eb4 (nm_r e34 (nm_e ⟨iv, iv, nm_e (br_f (by decide) <| br_f (by decide) <| br_f (by decide) <| br_f (by decide) <| br_f (by decide) <| br_f (by decide) <| br_f (by decide) <| br_f (by decide) <| br_f (by decide) <| br_f (by decide) <| br_f (by decide) <| br_f (by decide) <| br_f (by decide) <| br_f (by decide) <| br_f (by decide) <| br_f (by decide) <| br_t rfl <| ?_)⟩)))))⟩
  rw [cb]
  refine ⟨vb, h _ (fun r u hu => ?_)⟩
  obtain ⟨ql, pr, ex, kd, ns, np, wo, en, st, pp, sp, pc, pg, pn, rg, ds, fi, ow, po, pw, pl, qu, ou⟩ := u
  refine ⟨v3, ?_⟩
  rw [c3]
  exact nm_e hu
theorem xj_19 {post : Int32 → SX → Prop} (H : ux_in sp pn pg p s l a b 19) (h : ∀ Q : Int32 → SX → Prop, (∀ r u, xk3 post p 19 r u → Q r u) → wpX_seek Q (ql, pr, ex, kd, ns, np, wo, en, st, pp, upd sp p (sp p + 1), pc, pg, pn, rg, ds, fi, ow, po, pw, pl, qu, ou) (nI p) (rg (p * 4 + a)) (rg (p * 4 + b))) : wpX_execute post (ql, pr, ex, kd, ns, np, wo, en, st, pp, sp, pc, pg, pn, rg, ds, fi, ow, po, pw, pl, qu, ou) (nI p) := by
  obtain ⟨hp, hi, ho, ha, ea, hb, eb⟩ := H
  obtain ⟨h1, h2, h3, h4⟩ := id hi
  have cl : (nI p).toNatClampNeg = p := ux_c (by omega)
  have iv : vp_in (nI p) 5 := vp_in_nI hp (by decide)
  have e20 : nI p * 20 + sp p = nI (p * 20 + s) := by rw [h3, ux_mul_l, nI_add]
  have ea4 : nI p * 4 + ((pg (p * 20 + s) >>> ((5 : Int32) &&& 31)) &&& 3) = nI (p * 4 + a) := by rw [ea, ux_mul_l, nI_add]
  have eb4 : nI p * 4 + ((pg (p * 20 + s) >>> ((7 : Int32) &&& 31)) &&& 3) = nI (p * 4 + b) := by rw [eb, ux_mul_l, nI_add]
  have e34 : nI p * 4 + 3 = nI (p * 4 + 3) := by rw [ux_mul_l, ux_add_l]
  have ca : (nI (p * 4 + a)).toNatClampNeg = p * 4 + a := ux_c (by omega)
  have cb : (nI (p * 4 + b)).toNatClampNeg = p * 4 + b := ux_c (by omega)
  have c3 : (nI (p * 4 + 3)).toNatClampNeg = p * 4 + 3 := ux_c (by omega)
  have va : vp_in (nI (p * 4 + a)) 20 := vp_in_nI (by omega) (by decide)
  have vb : vp_in (nI (p * 4 + b)) 20 := vp_in_nI (by omega) (by decide)
  have v3 : vp_in (nI (p * 4 + 3)) 20 := vp_in_nI (by omega) (by decide)
  unfold wpX_execute
  refine xa_ip1 hp hi (br_f (by decide) ⟨iv, ?_⟩)
  rw [cl, e20, ux_c (n := p * 20 + s) (by omega)]
  refine ⟨vp_in_nI (by omega) (by decide), nm_e (nm_r ho (nm_r ea4 (nm_r eb4 (nm_r e34 (nm_e ⟨iv, iv, nm_e (br_f (by decide) <| br_f (by decide) <| br_f (by decide) <| br_f (by decide) <| br_f (by decide) <| br_f (by decide) <| br_f (by decide) <| br_f (by decide) <| br_f (by decide) <| br_f (by decide) <| br_f (by decide) <| br_f (by decide) <| br_f (by decide) <| br_f (by decide) <| br_f (by decide) <| br_f (by decide) <| br_f (by decide) <| br_f (by decide) <| br_f (by decide) <| br_f (by decide) <| br_f (by decide) <| br_t rfl <| ?_)⟩)))))⟩
  rw [ca, cb]
  refine ⟨va, vb, h _ (fun r u hu => ?_)⟩
  obtain ⟨ql, pr, ex, kd, ns, np, wo, en, st, pp, sp, pc, pg, pn, rg, ds, fi, ow, po, pw, pl, qu, ou⟩ := u
  refine ⟨v3, ?_⟩
  rw [c3]
  exact nm_e hu
theorem xj_20 {post : Int32 → SX → Prop} (H : ux_in sp pn pg p s l a b 20) (h : ∀ Q : Int32 → SX → Prop, (∀ r u, xk3 post p 20 r u → Q r u) → wpX_makeDirectory Q (ql, pr, ex, kd, ns, np, wo, en, st, pp, upd sp p (sp p + 1), pc, pg, pn, rg, ds, fi, ow, po, pw, pl, qu, ou) (nI p) (rg (p * 4 + a))) : wpX_execute post (ql, pr, ex, kd, ns, np, wo, en, st, pp, sp, pc, pg, pn, rg, ds, fi, ow, po, pw, pl, qu, ou) (nI p) := by
  obtain ⟨hp, hi, ho, ha, ea, hb, eb⟩ := H
  obtain ⟨h1, h2, h3, h4⟩ := id hi
  have cl : (nI p).toNatClampNeg = p := ux_c (by omega)
  have iv : vp_in (nI p) 5 := vp_in_nI hp (by decide)
  have e20 : nI p * 20 + sp p = nI (p * 20 + s) := by rw [h3, ux_mul_l, nI_add]
  have ea4 : nI p * 4 + ((pg (p * 20 + s) >>> ((5 : Int32) &&& 31)) &&& 3) = nI (p * 4 + a) := by rw [ea, ux_mul_l, nI_add]
  have eb4 : nI p * 4 + ((pg (p * 20 + s) >>> ((7 : Int32) &&& 31)) &&& 3) = nI (p * 4 + b) := by rw [eb, ux_mul_l, nI_add]
  have e34 : nI p * 4 + 3 = nI (p * 4 + 3) := by rw [ux_mul_l, ux_add_l]
  have ca : (nI (p * 4 + a)).toNatClampNeg = p * 4 + a := ux_c (by omega)
  have cb : (nI (p * 4 + b)).toNatClampNeg = p * 4 + b := ux_c (by omega)
  have c3 : (nI (p * 4 + 3)).toNatClampNeg = p * 4 + 3 := ux_c (by omega)
  have va : vp_in (nI (p * 4 + a)) 20 := vp_in_nI (by omega) (by decide)
  have vb : vp_in (nI (p * 4 + b)) 20 := vp_in_nI (by omega) (by decide)
  have v3 : vp_in (nI (p * 4 + 3)) 20 := vp_in_nI (by omega) (by decide)
  unfold wpX_execute
  refine xa_ip1 hp hi (br_f (by decide) ⟨iv, ?_⟩)
  rw [cl, e20, ux_c (n := p * 20 + s) (by omega)]
  refine ⟨vp_in_nI (by omega) (by decide), nm_e (nm_r ho (nm_r ea4 (nm_r eb4 (nm_r e34 (nm_e ⟨iv, iv, nm_e (br_f (by decide) <| br_f (by decide) <| br_f (by decide) <| br_f (by decide) <| br_f (by decide) <| br_f (by decide) <| br_f (by decide) <| br_f (by decide) <| br_f (by decide) <| br_f (by decide) <| br_f (by decide) <| br_f (by decide) <| br_f (by decide) <| br_f (by decide) <| br_f (by decide) <| br_f (by decide) <| br_f (by decide) <| br_f (by decide) <| br_f (by decide) <| br_f (by decide) <| br_f (by decide) <| br_f (by decide) <| br_t rfl <| ?_)⟩)))))⟩
  rw [ca]
  refine ⟨va, h _ (fun r u hu => ?_)⟩
  obtain ⟨ql, pr, ex, kd, ns, np, wo, en, st, pp, sp, pc, pg, pn, rg, ds, fi, ow, po, pw, pl, qu, ou⟩ := u
  refine ⟨v3, ?_⟩
  rw [c3]
  exact nm_e hu
theorem xj_21 {post : Int32 → SX → Prop} (H : ux_in sp pn pg p s l a b 21) (h : ∀ Q : Int32 → SX → Prop, (∀ r u, xk3 post p 21 r u → Q r u) → wpX_go Q (ql, pr, ex, kd, ns, np, wo, en, st, pp, upd sp p (sp p + 1), pc, pg, pn, rg, ds, fi, ow, po, pw, pl, qu, ou) (nI p) (rg (p * 4 + a))) : wpX_execute post (ql, pr, ex, kd, ns, np, wo, en, st, pp, sp, pc, pg, pn, rg, ds, fi, ow, po, pw, pl, qu, ou) (nI p) := by
  obtain ⟨hp, hi, ho, ha, ea, hb, eb⟩ := H
  obtain ⟨h1, h2, h3, h4⟩ := id hi
  have cl : (nI p).toNatClampNeg = p := ux_c (by omega)
  have iv : vp_in (nI p) 5 := vp_in_nI hp (by decide)
  have e20 : nI p * 20 + sp p = nI (p * 20 + s) := by rw [h3, ux_mul_l, nI_add]
  have ea4 : nI p * 4 + ((pg (p * 20 + s) >>> ((5 : Int32) &&& 31)) &&& 3) = nI (p * 4 + a) := by rw [ea, ux_mul_l, nI_add]
  have eb4 : nI p * 4 + ((pg (p * 20 + s) >>> ((7 : Int32) &&& 31)) &&& 3) = nI (p * 4 + b) := by rw [eb, ux_mul_l, nI_add]
  have e34 : nI p * 4 + 3 = nI (p * 4 + 3) := by rw [ux_mul_l, ux_add_l]
  have ca : (nI (p * 4 + a)).toNatClampNeg = p * 4 + a := ux_c (by omega)
  have cb : (nI (p * 4 + b)).toNatClampNeg = p * 4 + b := ux_c (by omega)
  have c3 : (nI (p * 4 + 3)).toNatClampNeg = p * 4 + 3 := ux_c (by omega)
  have va : vp_in (nI (p * 4 + a)) 20 := vp_in_nI (by omega) (by decide)
  have vb : vp_in (nI (p * 4 + b)) 20 := vp_in_nI (by omega) (by decide)
  have v3 : vp_in (nI (p * 4 + 3)) 20 := vp_in_nI (by omega) (by decide)
  unfold wpX_execute
  refine xa_ip1 hp hi (br_f (by decide) ⟨iv, ?_⟩)
  rw [cl, e20, ux_c (n := p * 20 + s) (by omega)]
  refine ⟨vp_in_nI (by omega) (by decide), nm_e (nm_r ho (nm_r ea4 (nm_r eb4 (nm_r e34 (nm_e ⟨iv, iv, nm_e (br_f (by decide) <| br_f (by decide) <| br_f (by decide) <| br_f (by decide) <| br_f (by decide) <| br_f (by decide) <| br_f (by decide) <| br_f (by decide) <| br_f (by decide) <| br_f (by decide) <| br_f (by decide) <| br_f (by decide) <| br_f (by decide) <| br_f (by decide) <| br_f (by decide) <| br_f (by decide) <| br_f (by decide) <| br_f (by decide) <| br_f (by decide) <| br_f (by decide) <| br_f (by decide) <| br_f (by decide) <| br_f (by decide) <| br_t rfl <| ?_)⟩)))))⟩
  rw [ca]
  refine ⟨va, h _ (fun r u hu => ?_)⟩
  obtain ⟨ql, pr, ex, kd, ns, np, wo, en, st, pp, sp, pc, pg, pn, rg, ds, fi, ow, po, pw, pl, qu, ou⟩ := u
  refine ⟨v3, ?_⟩
  rw [c3]
  exact nm_e hu
theorem xj_22 {post : Int32 → SX → Prop} (H : ux_in sp pn pg p s l a b 22) (h : ∀ Q : Int32 → SX → Prop, (∀ r u, xk3 post p 22 r u → Q r u) → wpX_link Q (ql, pr, ex, kd, ns, np, wo, en, st, pp, upd sp p (sp p + 1), pc, pg, pn, rg, ds, fi, ow, po, pw, pl, qu, ou) (nI p) (rg (p * 4 + a)) (rg (p * 4 + b))) : wpX_execute post (ql, pr, ex, kd, ns, np, wo, en, st, pp, sp, pc, pg, pn, rg, ds, fi, ow, po, pw, pl, qu, ou) (nI p) := by
  obtain ⟨hp, hi, ho, ha, ea, hb, eb⟩ := H
  obtain ⟨h1, h2, h3, h4⟩ := id hi
  have cl : (nI p).toNatClampNeg = p := ux_c (by omega)
  have iv : vp_in (nI p) 5 := vp_in_nI hp (by decide)
  have e20 : nI p * 20 + sp p = nI (p * 20 + s) := by rw [h3, ux_mul_l, nI_add]
  have ea4 : nI p * 4 + ((pg (p * 20 + s) >>> ((5 : Int32) &&& 31)) &&& 3) = nI (p * 4 + a) := by rw [ea, ux_mul_l, nI_add]
  have eb4 : nI p * 4 + ((pg (p * 20 + s) >>> ((7 : Int32) &&& 31)) &&& 3) = nI (p * 4 + b) := by rw [eb, ux_mul_l, nI_add]
  have e34 : nI p * 4 + 3 = nI (p * 4 + 3) := by rw [ux_mul_l, ux_add_l]
  have ca : (nI (p * 4 + a)).toNatClampNeg = p * 4 + a := ux_c (by omega)
  have cb : (nI (p * 4 + b)).toNatClampNeg = p * 4 + b := ux_c (by omega)
  have c3 : (nI (p * 4 + 3)).toNatClampNeg = p * 4 + 3 := ux_c (by omega)
  have va : vp_in (nI (p * 4 + a)) 20 := vp_in_nI (by omega) (by decide)
  have vb : vp_in (nI (p * 4 + b)) 20 := vp_in_nI (by omega) (by decide)
  have v3 : vp_in (nI (p * 4 + 3)) 20 := vp_in_nI (by omega) (by decide)
  unfold wpX_execute
  refine xa_ip1 hp hi (br_f (by decide) ⟨iv, ?_⟩)
  rw [cl, e20, ux_c (n := p * 20 + s) (by omega)]
  refine ⟨vp_in_nI (by omega) (by decide), nm_e (nm_r ho (nm_r ea4 (nm_r eb4 (nm_r e34 (nm_e ⟨iv, iv, nm_e (br_f (by decide) <| br_f (by decide) <| br_f (by decide) <| br_f (by decide) <| br_f (by decide) <| br_f (by decide) <| br_f (by decide) <| br_f (by decide) <| br_f (by decide) <| br_f (by decide) <| br_f (by decide) <| br_f (by decide) <| br_f (by decide) <| br_f (by decide) <| br_f (by decide) <| br_f (by decide) <| br_f (by decide) <| br_f (by decide) <| br_f (by decide) <| br_f (by decide) <| br_f (by decide) <| br_f (by decide) <| br_f (by decide) <| br_f (by decide) <| br_t rfl <| ?_)⟩)))))⟩
  rw [ca, cb]
  refine ⟨va, vb, h _ (fun r u hu => ?_)⟩
  obtain ⟨ql, pr, ex, kd, ns, np, wo, en, st, pp, sp, pc, pg, pn, rg, ds, fi, ow, po, pw, pl, qu, ou⟩ := u
  refine ⟨v3, ?_⟩
  rw [c3]
  exact nm_e hu
theorem xj_23 {post : Int32 → SX → Prop} (H : ux_in sp pn pg p s l a b 23) (h : ∀ Q : Int32 → SX → Prop, (∀ r u, xk3 post p 23 r u → Q r u) → wpX_remove Q (ql, pr, ex, kd, ns, np, wo, en, st, pp, upd sp p (sp p + 1), pc, pg, pn, rg, ds, fi, ow, po, pw, pl, qu, ou) (nI p) (rg (p * 4 + a))) : wpX_execute post (ql, pr, ex, kd, ns, np, wo, en, st, pp, sp, pc, pg, pn, rg, ds, fi, ow, po, pw, pl, qu, ou) (nI p) := by
  obtain ⟨hp, hi, ho, ha, ea, hb, eb⟩ := H
  obtain ⟨h1, h2, h3, h4⟩ := id hi
  have cl : (nI p).toNatClampNeg = p := ux_c (by omega)
  have iv : vp_in (nI p) 5 := vp_in_nI hp (by decide)
  have e20 : nI p * 20 + sp p = nI (p * 20 + s) := by rw [h3, ux_mul_l, nI_add]
  have ea4 : nI p * 4 + ((pg (p * 20 + s) >>> ((5 : Int32) &&& 31)) &&& 3) = nI (p * 4 + a) := by rw [ea, ux_mul_l, nI_add]
  have eb4 : nI p * 4 + ((pg (p * 20 + s) >>> ((7 : Int32) &&& 31)) &&& 3) = nI (p * 4 + b) := by rw [eb, ux_mul_l, nI_add]
  have e34 : nI p * 4 + 3 = nI (p * 4 + 3) := by rw [ux_mul_l, ux_add_l]
  have ca : (nI (p * 4 + a)).toNatClampNeg = p * 4 + a := ux_c (by omega)
  have cb : (nI (p * 4 + b)).toNatClampNeg = p * 4 + b := ux_c (by omega)
  have c3 : (nI (p * 4 + 3)).toNatClampNeg = p * 4 + 3 := ux_c (by omega)
  have va : vp_in (nI (p * 4 + a)) 20 := vp_in_nI (by omega) (by decide)
  have vb : vp_in (nI (p * 4 + b)) 20 := vp_in_nI (by omega) (by decide)
  have v3 : vp_in (nI (p * 4 + 3)) 20 := vp_in_nI (by omega) (by decide)
  unfold wpX_execute
  refine xa_ip1 hp hi (br_f (by decide) ⟨iv, ?_⟩)
  rw [cl, e20, ux_c (n := p * 20 + s) (by omega)]
  refine ⟨vp_in_nI (by omega) (by decide), nm_e (nm_r ho (nm_r ea4 (nm_r eb4 (nm_r e34 (nm_e ⟨iv, iv, nm_e (br_f (by decide) <| br_f (by decide) <| br_f (by decide) <| br_f (by decide) <| br_f (by decide) <| br_f (by decide) <| br_f (by decide) <| br_f (by decide) <| br_f (by decide) <| br_f (by decide) <| br_f (by decide) <| br_f (by decide) <| br_f (by decide) <| br_f (by decide) <| br_f (by decide) <| br_f (by decide) <| br_f (by decide) <| br_f (by decide) <| br_f (by decide) <| br_f (by decide) <| br_f (by decide) <| br_f (by decide) <| br_f (by decide) <| br_f (by decide) <| br_f (by decide) <| br_t rfl <| ?_)⟩)))))⟩
  rw [ca]
  refine ⟨va, h _ (fun r u hu => ?_)⟩
  obtain ⟨ql, pr, ex, kd, ns, np, wo, en, st, pp, sp, pc, pg, pn, rg, ds, fi, ow, po, pw, pl, qu, ou⟩ := u
  refine ⟨v3, ?_⟩
  rw [c3]
  exact nm_e hu
theorem xj_28 {post : Int32 → SX → Prop} (H : ux_in sp pn pg p s l a b 28) (h : ∀ Q : Int32 → SX → Prop, (∀ r u, xk3 post p 28 r u → Q r u) → wpX_kill Q (ql, pr, ex, kd, ns, np, wo, en, st, pp, upd sp p (sp p + 1), pc, pg, pn, rg, ds, fi, ow, po, pw, pl, qu, ou) (nI p) (rg (p * 4 + a))) : wpX_execute post (ql, pr, ex, kd, ns, np, wo, en, st, pp, sp, pc, pg, pn, rg, ds, fi, ow, po, pw, pl, qu, ou) (nI p) := by
  obtain ⟨hp, hi, ho, ha, ea, hb, eb⟩ := H
  obtain ⟨h1, h2, h3, h4⟩ := id hi
  have cl : (nI p).toNatClampNeg = p := ux_c (by omega)
  have iv : vp_in (nI p) 5 := vp_in_nI hp (by decide)
  have e20 : nI p * 20 + sp p = nI (p * 20 + s) := by rw [h3, ux_mul_l, nI_add]
  have ea4 : nI p * 4 + ((pg (p * 20 + s) >>> ((5 : Int32) &&& 31)) &&& 3) = nI (p * 4 + a) := by rw [ea, ux_mul_l, nI_add]
  have eb4 : nI p * 4 + ((pg (p * 20 + s) >>> ((7 : Int32) &&& 31)) &&& 3) = nI (p * 4 + b) := by rw [eb, ux_mul_l, nI_add]
  have e34 : nI p * 4 + 3 = nI (p * 4 + 3) := by rw [ux_mul_l, ux_add_l]
  have ca : (nI (p * 4 + a)).toNatClampNeg = p * 4 + a := ux_c (by omega)
  have cb : (nI (p * 4 + b)).toNatClampNeg = p * 4 + b := ux_c (by omega)
  have c3 : (nI (p * 4 + 3)).toNatClampNeg = p * 4 + 3 := ux_c (by omega)
  have va : vp_in (nI (p * 4 + a)) 20 := vp_in_nI (by omega) (by decide)
  have vb : vp_in (nI (p * 4 + b)) 20 := vp_in_nI (by omega) (by decide)
  have v3 : vp_in (nI (p * 4 + 3)) 20 := vp_in_nI (by omega) (by decide)
  unfold wpX_execute
  refine xa_ip1 hp hi (br_f (by decide) ⟨iv, ?_⟩)
  rw [cl, e20, ux_c (n := p * 20 + s) (by omega)]
  refine ⟨vp_in_nI (by omega) (by decide), nm_e (nm_r ho (nm_r ea4 (nm_r eb4 (nm_r e34 (nm_e ⟨iv, iv, nm_e (br_f (by decide) <| br_f (by decide) <| br_f (by decide) <| br_f (by decide) <| br_f (by decide) <| br_f (by decide) <| br_f (by decide) <| br_f (by decide) <| br_f (by decide) <| br_f (by decide) <| br_f (by decide) <| br_f (by decide) <| br_f (by decide) <| br_f (by decide) <| br_f (by decide) <| br_f (by decide) <| br_f (by decide) <| br_f (by decide) <| br_f (by decide) <| br_f (by decide) <| br_f (by decide) <| br_f (by decide) <| br_f (by decide) <| br_f (by decide) <| br_f (by decide) <| br_f (by decide) <| br_f (by decide) <| br_f (by decide) <| br_f (by decide) <| br_f (by decide) <| br_t rfl <| ?_)⟩)))))⟩
  rw [ca]
  refine ⟨va, h _ (fun r u hu => ?_)⟩
  obtain ⟨ql, pr, ex, kd, ns, np, wo, en, st, pp, sp, pc, pg, pn, rg, ds, fi, ow, po, pw, pl, qu, ou⟩ := u
  refine ⟨v3, ?_⟩
  rw [c3]
  exact nm_e hu
theorem xj_1 {post : Int32 → SX → Prop} (H : ux_in sp pn pg p s l a b 1) (h : wX_execute_634 post (nI p) 1 ql pr ex kd ns np wo en st pp (upd sp p (sp p + 1)) pc pg pn (upd rg (p * 4 + a) ((pg (p * 20 + s) >>> ((9 : Int32) &&& 31)))) ds fi ow po pw pl qu ou) : wpX_execute post (ql, pr, ex, kd, ns, np, wo, en, st, pp, sp, pc, pg, pn, rg, ds, fi, ow, po, pw, pl, qu, ou) (nI p) := by
  obtain ⟨hp, hi, ho, ha, ea, hb, eb⟩ := H
  obtain ⟨h1, h2, h3, h4⟩ := id hi
  have cl : (nI p).toNatClampNeg = p := ux_c (by omega)
  have iv : vp_in (nI p) 5 := vp_in_nI hp (by decide)
  have e20 : nI p * 20 + sp p = nI (p * 20 + s) := by rw [h3, ux_mul_l, nI_add]
  have ea4 : nI p * 4 + ((pg (p * 20 + s) >>> ((5 : Int32) &&& 31)) &&& 3) = nI (p * 4 + a) := by rw [ea, ux_mul_l, nI_add]
  have eb4 : nI p * 4 + ((pg (p * 20 + s) >>> ((7 : Int32) &&& 31)) &&& 3) = nI (p * 4 + b) := by rw [eb, ux_mul_l, nI_add]
  have e34 : nI p * 4 + 3 = nI (p * 4 + 3) := by rw [ux_mul_l, ux_add_l]
  have ca : (nI (p * 4 + a)).toNatClampNeg = p * 4 + a := ux_c (by omega)
  have cb : (nI (p * 4 + b)).toNatClampNeg = p * 4 + b := ux_c (by omega)
  have c3 : (nI (p * 4 + 3)).toNatClampNeg = p * 4 + 3 := ux_c (by omega)
  have va : vp_in (nI (p * 4 + a)) 20 := vp_in_nI (by omega) (by decide)
  have vb : vp_in (nI (p * 4 + b)) 20 := vp_in_nI (by omega) (by decide)
  have v3 : vp_in (nI (p * 4 + 3)) 20 := vp_in_nI (by omega) (by decide)
  unfold wpX_execute
  refine xa_ip1 hp hi (br_f (by decide) ⟨iv, ?_⟩)
  rw [cl, e20, ux_c (n := p * 20 + s) (by omega)]
  refine ⟨vp_in_nI (by omega) (by decide), nm_e (nm_r ho (nm_r ea4 (nm_r eb4 (nm_r e34 (nm_e ⟨iv, iv, nm_e (br_f (by decide) <| br_f (by decide) <| br_f (by decide) <| br_t rfl <| ?_)⟩)))))⟩
  unfold wX_execute_606
  rw [ca, cb]
  exact ⟨va, vb, br_f (by decide) <| br_f (by decide) <| br_t rfl <| ⟨va, nm_e h⟩⟩
theorem xj_2 {post : Int32 → SX → Prop} (H : ux_in sp pn pg p s l a b 2) (h : wX_execute_634 post (nI p) 2 ql pr ex kd ns np wo en st pp (upd sp p (sp p + 1)) pc pg pn (upd rg (p * 4 + a) (rg (p * 4 + b))) ds fi ow po pw pl qu ou) : wpX_execute post (ql, pr, ex, kd, ns, np, wo, en, st, pp, sp, pc, pg, pn, rg, ds, fi, ow, po, pw, pl, qu, ou) (nI p) := by
  obtain ⟨hp, hi, ho, ha, ea, hb, eb⟩ := H
  obtain ⟨h1, h2, h3, h4⟩ := id hi
  have cl : (nI p).toNatClampNeg = p := ux_c (by omega)
  have iv : vp_in (nI p) 5 := vp_in_nI hp (by decide)
  have e20 : nI p * 20 + sp p = nI (p * 20 + s) := by rw [h3, ux_mul_l, nI_add]
  have ea4 : nI p * 4 + ((pg (p * 20 + s) >>> ((5 : Int32) &&& 31)) &&& 3) = nI (p * 4 + a) := by rw [ea, ux_mul_l, nI_add]
  have eb4 : nI p * 4 + ((pg (p * 20 + s) >>> ((7 : Int32) &&& 31)) &&& 3) = nI (p * 4 + b) := by rw [eb, ux_mul_l, nI_add]
  have e34 : nI p * 4 + 3 = nI (p * 4 + 3) := by rw [ux_mul_l, ux_add_l]
  have ca : (nI (p * 4 + a)).toNatClampNeg = p * 4 + a := ux_c (by omega)
  have cb : (nI (p * 4 + b)).toNatClampNeg = p * 4 + b := ux_c (by omega)
  have c3 : (nI (p * 4 + 3)).toNatClampNeg = p * 4 + 3 := ux_c (by omega)
  have va : vp_in (nI (p * 4 + a)) 20 := vp_in_nI (by omega) (by decide)
  have vb : vp_in (nI (p * 4 + b)) 20 := vp_in_nI (by omega) (by decide)
  have v3 : vp_in (nI (p * 4 + 3)) 20 := vp_in_nI (by omega) (by decide)
  unfold wpX_execute
  refine xa_ip1 hp hi (br_f (by decide) ⟨iv, ?_⟩)
  rw [cl, e20, ux_c (n := p * 20 + s) (by omega)]
  refine ⟨vp_in_nI (by omega) (by decide), nm_e (nm_r ho (nm_r ea4 (nm_r eb4 (nm_r e34 (nm_e ⟨iv, iv, nm_e (br_f (by decide) <| br_f (by decide) <| br_f (by decide) <| br_f (by decide) <| br_t rfl <| ?_)⟩)))))⟩
  unfold wX_execute_606
  rw [ca, cb]
  exact ⟨va, vb, br_f (by decide) <| br_f (by decide) <| br_f (by decide) <| br_t rfl <| ⟨va, nm_e h⟩⟩
theorem xj_3 {post : Int32 → SX → Prop} (H : ux_in sp pn pg p s l a b 3) (h : wX_execute_634 post (nI p) 3 ql pr ex kd ns np wo en st pp (upd sp p (sp p + 1)) pc pg pn (upd rg (p * 4 + a) (rg (p * 4 + a) + rg (p * 4 + b))) ds fi ow po pw pl qu ou) : wpX_execute post (ql, pr, ex, kd, ns, np, wo, en, st, pp, sp, pc, pg, pn, rg, ds, fi, ow, po, pw, pl, qu, ou) (nI p) := by
  obtain ⟨hp, hi, ho, ha, ea, hb, eb⟩ := H
  obtain ⟨h1, h2, h3, h4⟩ := id hi
  have cl : (nI p).toNatClampNeg = p := ux_c (by omega)
  have iv : vp_in (nI p) 5 := vp_in_nI hp (by decide)
  have e20 : nI p * 20 + sp p = nI (p * 20 + s) := by rw [h3, ux_mul_l, nI_add]
  have ea4 : nI p * 4 + ((pg (p * 20 + s) >>> ((5 : Int32) &&& 31)) &&& 3) = nI (p * 4 + a) := by rw [ea, ux_mul_l, nI_add]
  have eb4 : nI p * 4 + ((pg (p * 20 + s) >>> ((7 : Int32) &&& 31)) &&& 3) = nI (p * 4 + b) := by rw [eb, ux_mul_l, nI_add]
  have e34 : nI p * 4 + 3 = nI (p * 4 + 3) := by rw [ux_mul_l, ux_add_l]
  have ca : (nI (p * 4 + a)).toNatClampNeg = p * 4 + a := ux_c (by omega)
  have cb : (nI (p * 4 + b)).toNatClampNeg = p * 4 + b := ux_c (by omega)
  have c3 : (nI (p * 4 + 3)).toNatClampNeg = p * 4 + 3 := ux_c (by omega)
  have va : vp_in (nI (p * 4 + a)) 20 := vp_in_nI (by omega) (by decide)
  have vb : vp_in (nI (p * 4 + b)) 20 := vp_in_nI (by omega) (by decide)
  have v3 : vp_in (nI (p * 4 + 3)) 20 := vp_in_nI (by omega) (by decide)
  unfold wpX_execute
  refine xa_ip1 hp hi (br_f (by decide) ⟨iv, ?_⟩)
  rw [cl, e20, ux_c (n := p * 20 + s) (by omega)]
  refine ⟨vp_in_nI (by omega) (by decide), nm_e (nm_r ho (nm_r ea4 (nm_r eb4 (nm_r e34 (nm_e ⟨iv, iv, nm_e (br_f (by decide) <| br_f (by decide) <| br_f (by decide) <| br_f (by decide) <| br_f (by decide) <| br_t rfl <| ?_)⟩)))))⟩
  unfold wX_execute_606
  rw [ca, cb]
  exact ⟨va, vb, br_f (by decide) <| br_f (by decide) <| br_f (by decide) <| br_f (by decide) <| br_t rfl <| ⟨va, nm_e h⟩⟩
theorem xj_4 {post : Int32 → SX → Prop} (H : ux_in sp pn pg p s l a b 4) (h : wX_execute_634 post (nI p) 4 ql pr ex kd ns np wo en st pp (upd sp p (sp p + 1)) pc pg pn (upd rg (p * 4 + a) (rg (p * 4 + a) - rg (p * 4 + b))) ds fi ow po pw pl qu ou) : wpX_execute post (ql, pr, ex, kd, ns, np, wo, en, st, pp, sp, pc, pg, pn, rg, ds, fi, ow, po, pw, pl, qu, ou) (nI p) := by
  obtain ⟨hp, hi, ho, ha, ea, hb, eb⟩ := H
  obtain ⟨h1, h2, h3, h4⟩ := id hi
  have cl : (nI p).toNatClampNeg = p := ux_c (by omega)
  have iv : vp_in (nI p) 5 := vp_in_nI hp (by decide)
  have e20 : nI p * 20 + sp p = nI (p * 20 + s) := by rw [h3, ux_mul_l, nI_add]
  have ea4 : nI p * 4 + ((pg (p * 20 + s) >>> ((5 : Int32) &&& 31)) &&& 3) = nI (p * 4 + a) := by rw [ea, ux_mul_l, nI_add]
  have eb4 : nI p * 4 + ((pg (p * 20 + s) >>> ((7 : Int32) &&& 31)) &&& 3) = nI (p * 4 + b) := by rw [eb, ux_mul_l, nI_add]
  have e34 : nI p * 4 + 3 = nI (p * 4 + 3) := by rw [ux_mul_l, ux_add_l]
  have ca : (nI (p * 4 + a)).toNatClampNeg = p * 4 + a := ux_c (by omega)
  have cb : (nI (p * 4 + b)).toNatClampNeg = p * 4 + b := ux_c (by omega)
  have c3 : (nI (p * 4 + 3)).toNatClampNeg = p * 4 + 3 := ux_c (by omega)
  have va : vp_in (nI (p * 4 + a)) 20 := vp_in_nI (by omega) (by decide)
  have vb : vp_in (nI (p * 4 + b)) 20 := vp_in_nI (by omega) (by decide)
  have v3 : vp_in (nI (p * 4 + 3)) 20 := vp_in_nI (by omega) (by decide)
  unfold wpX_execute
  refine xa_ip1 hp hi (br_f (by decide) ⟨iv, ?_⟩)
  rw [cl, e20, ux_c (n := p * 20 + s) (by omega)]
  refine ⟨vp_in_nI (by omega) (by decide), nm_e (nm_r ho (nm_r ea4 (nm_r eb4 (nm_r e34 (nm_e ⟨iv, iv, nm_e (br_f (by decide) <| br_f (by decide) <| br_f (by decide) <| br_f (by decide) <| br_f (by decide) <| br_f (by decide) <| br_t rfl <| ?_)⟩)))))⟩
  unfold wX_execute_606
  rw [ca, cb]
  exact ⟨va, vb, br_f (by decide) <| br_f (by decide) <| br_f (by decide) <| br_f (by decide) <| br_f (by decide) <| br_t rfl <| ⟨va, nm_e h⟩⟩
theorem xj_5 {post : Int32 → SX → Prop} (H : ux_in sp pn pg p s l a b 5) (h : wX_execute_634 post (nI p) 5 ql pr ex kd ns np wo en st pp (upd sp p (sp p + 1)) pc pg pn (upd rg (p * 4 + a) (rg (p * 4 + a) + (pg (p * 20 + s) >>> ((9 : Int32) &&& 31)))) ds fi ow po pw pl qu ou) : wpX_execute post (ql, pr, ex, kd, ns, np, wo, en, st, pp, sp, pc, pg, pn, rg, ds, fi, ow, po, pw, pl, qu, ou) (nI p) := by
  obtain ⟨hp, hi, ho, ha, ea, hb, eb⟩ := H
  obtain ⟨h1, h2, h3, h4⟩ := id hi
  have cl : (nI p).toNatClampNeg = p := ux_c (by omega)
  have iv : vp_in (nI p) 5 := vp_in_nI hp (by decide)
  have e20 : nI p * 20 + sp p = nI (p * 20 + s) := by rw [h3, ux_mul_l, nI_add]
  have ea4 : nI p * 4 + ((pg (p * 20 + s) >>> ((5 : Int32) &&& 31)) &&& 3) = nI (p * 4 + a) := by rw [ea, ux_mul_l, nI_add]
  have eb4 : nI p * 4 + ((pg (p * 20 + s) >>> ((7 : Int32) &&& 31)) &&& 3) = nI (p * 4 + b) := by rw [eb, ux_mul_l, nI_add]
  have e34 : nI p * 4 + 3 = nI (p * 4 + 3) := by rw [ux_mul_l, ux_add_l]
  have ca : (nI (p * 4 + a)).toNatClampNeg = p * 4 + a := ux_c (by omega)
  have cb : (nI (p * 4 + b)).toNatClampNeg = p * 4 + b := ux_c (by omega)
  have c3 : (nI (p * 4 + 3)).toNatClampNeg = p * 4 + 3 := ux_c (by omega)
  have va : vp_in (nI (p * 4 + a)) 20 := vp_in_nI (by omega) (by decide)
  have vb : vp_in (nI (p * 4 + b)) 20 := vp_in_nI (by omega) (by decide)
  have v3 : vp_in (nI (p * 4 + 3)) 20 := vp_in_nI (by omega) (by decide)
  unfold wpX_execute
  refine xa_ip1 hp hi (br_f (by decide) ⟨iv, ?_⟩)
  rw [cl, e20, ux_c (n := p * 20 + s) (by omega)]
  refine ⟨vp_in_nI (by omega) (by decide), nm_e (nm_r ho (nm_r ea4 (nm_r eb4 (nm_r e34 (nm_e ⟨iv, iv, nm_e (br_f (by decide) <| br_f (by decide) <| br_f (by decide) <| br_f (by decide) <| br_f (by decide) <| br_f (by decide) <| br_f (by decide) <| br_t rfl <| ?_)⟩)))))⟩
  unfold wX_execute_606
  rw [ca, cb]
  exact ⟨va, vb, br_f (by decide) <| br_f (by decide) <| br_f (by decide) <| br_f (by decide) <| br_f (by decide) <| br_f (by decide) <| br_t rfl <| ⟨va, nm_e h⟩⟩
theorem xj_6 {post : Int32 → SX → Prop} (H : ux_in sp pn pg p s l a b 6) (h : wX_execute_634 post (nI p) 6 ql pr ex kd ns np wo en st pp (upd sp p (sp p + 1)) pc pg pn (upd rg (p * 4 + a) (if rg (p * 4 + b) ≤ rg (p * 4 + a) then 0 else 1)) ds fi ow po pw pl qu ou) : wpX_execute post (ql, pr, ex, kd, ns, np, wo, en, st, pp, sp, pc, pg, pn, rg, ds, fi, ow, po, pw, pl, qu, ou) (nI p) := by
  obtain ⟨hp, hi, ho, ha, ea, hb, eb⟩ := H
  obtain ⟨h1, h2, h3, h4⟩ := id hi
  have cl : (nI p).toNatClampNeg = p := ux_c (by omega)
  have iv : vp_in (nI p) 5 := vp_in_nI hp (by decide)
  have e20 : nI p * 20 + sp p = nI (p * 20 + s) := by rw [h3, ux_mul_l, nI_add]
  have ea4 : nI p * 4 + ((pg (p * 20 + s) >>> ((5 : Int32) &&& 31)) &&& 3) = nI (p * 4 + a) := by rw [ea, ux_mul_l, nI_add]
  have eb4 : nI p * 4 + ((pg (p * 20 + s) >>> ((7 : Int32) &&& 31)) &&& 3) = nI (p * 4 + b) := by rw [eb, ux_mul_l, nI_add]
  have e34 : nI p * 4 + 3 = nI (p * 4 + 3) := by rw [ux_mul_l, ux_add_l]
  have ca : (nI (p * 4 + a)).toNatClampNeg = p * 4 + a := ux_c (by omega)
  have cb : (nI (p * 4 + b)).toNatClampNeg = p * 4 + b := ux_c (by omega)
  have c3 : (nI (p * 4 + 3)).toNatClampNeg = p * 4 + 3 := ux_c (by omega)
  have va : vp_in (nI (p * 4 + a)) 20 := vp_in_nI (by omega) (by decide)
  have vb : vp_in (nI (p * 4 + b)) 20 := vp_in_nI (by omega) (by decide)
  have v3 : vp_in (nI (p * 4 + 3)) 20 := vp_in_nI (by omega) (by decide)
  unfold wpX_execute
  refine xa_ip1 hp hi (br_f (by decide) ⟨iv, ?_⟩)
  rw [cl, e20, ux_c (n := p * 20 + s) (by omega)]
  refine ⟨vp_in_nI (by omega) (by decide), nm_e (nm_r ho (nm_r ea4 (nm_r eb4 (nm_r e34 (nm_e ⟨iv, iv, nm_e (br_f (by decide) <| br_f (by decide) <| br_f (by decide) <| br_f (by decide) <| br_f (by decide) <| br_f (by decide) <| br_f (by decide) <| br_f (by decide) <| br_t rfl <| ?_)⟩)))))⟩
  unfold wX_execute_606
  rw [ca, cb]
  refine ⟨va, vb, br_f (by decide) <| br_f (by decide) <| br_f (by decide) <| br_f (by decide) <| br_f (by decide) <| br_f (by decide) <| br_f (by decide) <| br_t rfl ?_⟩
  by_cases hc : rg (p * 4 + b) ≤ rg (p * 4 + a)
  · rw [if_pos hc] at h
    exact br_t hc ⟨va, nm_e h⟩
  · rw [if_neg hc] at h
    exact br_f hc ⟨va, nm_e h⟩
theorem xj_25 {post : Int32 → SX → Prop} (H : ux_in sp pn pg p s l a b 25) (h : wX_execute_634 post (nI p) 25 ql pr ex kd ns np wo en st pp (upd sp p (sp p + 1)) pc pg pn (upd rg (p * 4 + a) (rg (p * 4 + a))) ds fi ow po pw pl qu ou) : wpX_execute post (ql, pr, ex, kd, ns, np, wo, en, st, pp, sp, pc, pg, pn, rg, ds, fi, ow, po, pw, pl, qu, ou) (nI p) := by
  obtain ⟨hp, hi, ho, ha, ea, hb, eb⟩ := H
  obtain ⟨h1, h2, h3, h4⟩ := id hi
  have cl : (nI p).toNatClampNeg = p := ux_c (by omega)
  have iv : vp_in (nI p) 5 := vp_in_nI hp (by decide)
  have e20 : nI p * 20 + sp p = nI (p * 20 + s) := by rw [h3, ux_mul_l, nI_add]
  have ea4 : nI p * 4 + ((pg (p * 20 + s) >>> ((5 : Int32) &&& 31)) &&& 3) = nI (p * 4 + a) := by rw [ea, ux_mul_l, nI_add]
  have eb4 : nI p * 4 + ((pg (p * 20 + s) >>> ((7 : Int32) &&& 31)) &&& 3) = nI (p * 4 + b) := by rw [eb, ux_mul_l, nI_add]
  have e34 : nI p * 4 + 3 = nI (p * 4 + 3) := by rw [ux_mul_l, ux_add_l]
  have ca : (nI (p * 4 + a)).toNatClampNeg = p * 4 + a := ux_c (by omega)
  have cb : (nI (p * 4 + b)).toNatClampNeg = p * 4 + b := ux_c (by omega)
  have c3 : (nI (p * 4 + 3)).toNatClampNeg = p * 4 + 3 := ux_c (by omega)
  have va : vp_in (nI (p * 4 + a)) 20 := vp_in_nI (by omega) (by decide)
  have vb : vp_in (nI (p * 4 + b)) 20 := vp_in_nI (by omega) (by decide)
  have v3 : vp_in (nI (p * 4 + 3)) 20 := vp_in_nI (by omega) (by decide)
  unfold wpX_execute
  refine xa_ip1 hp hi (br_f (by decide) ⟨iv, ?_⟩)
  rw [cl, e20, ux_c (n := p * 20 + s) (by omega)]
  refine ⟨vp_in_nI (by omega) (by decide), nm_e (nm_r ho (nm_r ea4 (nm_r eb4 (nm_r e34 (nm_e ⟨iv, iv, nm_e (br_f (by decide) <| br_f (by decide) <| br_f (by decide) <| br_f (by decide) <| br_f (by decide) <| br_f (by decide) <| br_f (by decide) <| br_f (by decide) <| br_f (by decide) <| br_f (by decide) <| br_f (by decide) <| br_f (by decide) <| br_f (by decide) <| br_f (by decide) <| br_f (by decide) <| br_f (by decide) <| br_f (by decide) <| br_f (by decide) <| br_f (by decide) <| br_f (by decide) <| br_f (by decide) <| br_f (by decide) <| br_f (by decide) <| br_f (by decide) <| br_f (by decide) <| br_f (by decide) <| br_f (by decide) <| br_t rfl <| ?_)⟩)))))⟩
  unfold wX_execute_606
  rw [ca, cb]
  exact ⟨va, vb, br_f (by decide) <| br_t (by decide) <| ⟨va, nm_e h⟩⟩
theorem xj_29 {post : Int32 → SX → Prop} (H : ux_in sp pn pg p s l a b 29) (h : wX_execute_634 post (nI p) 29 ql pr ex kd ns np wo en st pp (upd sp p (sp p + 1)) pc pg pn (upd rg (p * 4 + a) (rg (p * 4 + a))) ds fi ow po pw pl qu ou) : wpX_execute post (ql, pr, ex, kd, ns, np, wo, en, st, pp, sp, pc, pg, pn, rg, ds, fi, ow, po, pw, pl, qu, ou) (nI p) := by
  obtain ⟨hp, hi, ho, ha, ea, hb, eb⟩ := H
  obtain ⟨h1, h2, h3, h4⟩ := id hi
  have cl : (nI p).toNatClampNeg = p := ux_c (by omega)
  have iv : vp_in (nI p) 5 := vp_in_nI hp (by decide)
  have e20 : nI p * 20 + sp p = nI (p * 20 + s) := by rw [h3, ux_mul_l, nI_add]
  have ea4 : nI p * 4 + ((pg (p * 20 + s) >>> ((5 : Int32) &&& 31)) &&& 3) = nI (p * 4 + a) := by rw [ea, ux_mul_l, nI_add]
  have eb4 : nI p * 4 + ((pg (p * 20 + s) >>> ((7 : Int32) &&& 31)) &&& 3) = nI (p * 4 + b) := by rw [eb, ux_mul_l, nI_add]
  have e34 : nI p * 4 + 3 = nI (p * 4 + 3) := by rw [ux_mul_l, ux_add_l]
  have ca : (nI (p * 4 + a)).toNatClampNeg = p * 4 + a := ux_c (by omega)
  have cb : (nI (p * 4 + b)).toNatClampNeg = p * 4 + b := ux_c (by omega)
  have c3 : (nI (p * 4 + 3)).toNatClampNeg = p * 4 + 3 := ux_c (by omega)
  have va : vp_in (nI (p * 4 + a)) 20 := vp_in_nI (by omega) (by decide)
  have vb : vp_in (nI (p * 4 + b)) 20 := vp_in_nI (by omega) (by decide)
  have v3 : vp_in (nI (p * 4 + 3)) 20 := vp_in_nI (by omega) (by decide)
  unfold wpX_execute
  refine xa_ip1 hp hi (br_f (by decide) ⟨iv, ?_⟩)
  rw [cl, e20, ux_c (n := p * 20 + s) (by omega)]
  refine ⟨vp_in_nI (by omega) (by decide), nm_e (nm_r ho (nm_r ea4 (nm_r eb4 (nm_r e34 (nm_e ⟨iv, iv, nm_e (br_f (by decide) <| br_t (by decide) <| ?_)⟩)))))⟩
  unfold wX_execute_606
  rw [ca, cb]
  exact ⟨va, vb, br_f (by decide) <| br_t (by decide) <| ⟨va, nm_e h⟩⟩
theorem xj_30 {post : Int32 → SX → Prop} (H : ux_in sp pn pg p s l a b 30) (h : wX_execute_634 post (nI p) 30 ql pr ex kd ns np wo en st pp (upd sp p (sp p + 1)) pc pg pn (upd rg (p * 4 + a) (rg (p * 4 + a))) ds fi ow po pw pl qu ou) : wpX_execute post (ql, pr, ex, kd, ns, np, wo, en, st, pp, sp, pc, pg, pn, rg, ds, fi, ow, po, pw, pl, qu, ou) (nI p) := by
  obtain ⟨hp, hi, ho, ha, ea, hb, eb⟩ := H
  obtain ⟨h1, h2, h3, h4⟩ := id hi
  have cl : (nI p).toNatClampNeg = p := ux_c (by omega)
  have iv : vp_in (nI p) 5 := vp_in_nI hp (by decide)
  have e20 : nI p * 20 + sp p = nI (p * 20 + s) := by rw [h3, ux_mul_l, nI_add]
  have ea4 : nI p * 4 + ((pg (p * 20 + s) >>> ((5 : Int32) &&& 31)) &&& 3) = nI (p * 4 + a) := by rw [ea, ux_mul_l, nI_add]
  have eb4 : nI p * 4 + ((pg (p * 20 + s) >>> ((7 : Int32) &&& 31)) &&& 3) = nI (p * 4 + b) := by rw [eb, ux_mul_l, nI_add]
  have e34 : nI p * 4 + 3 = nI (p * 4 + 3) := by rw [ux_mul_l, ux_add_l]
  have ca : (nI (p * 4 + a)).toNatClampNeg = p * 4 + a := ux_c (by omega)
  have cb : (nI (p * 4 + b)).toNatClampNeg = p * 4 + b := ux_c (by omega)
  have c3 : (nI (p * 4 + 3)).toNatClampNeg = p * 4 + 3 := ux_c (by omega)
  have va : vp_in (nI (p * 4 + a)) 20 := vp_in_nI (by omega) (by decide)
  have vb : vp_in (nI (p * 4 + b)) 20 := vp_in_nI (by omega) (by decide)
  have v3 : vp_in (nI (p * 4 + 3)) 20 := vp_in_nI (by omega) (by decide)
  unfold wpX_execute
  refine xa_ip1 hp hi (br_f (by decide) ⟨iv, ?_⟩)
  rw [cl, e20, ux_c (n := p * 20 + s) (by omega)]
  refine ⟨vp_in_nI (by omega) (by decide), nm_e (nm_r ho (nm_r ea4 (nm_r eb4 (nm_r e34 (nm_e ⟨iv, iv, nm_e (br_f (by decide) <| br_t (by decide) <| ?_)⟩)))))⟩
  unfold wX_execute_606
  rw [ca, cb]
  exact ⟨va, vb, br_f (by decide) <| br_t (by decide) <| ⟨va, nm_e h⟩⟩
theorem xj_31 {post : Int32 → SX → Prop} (H : ux_in sp pn pg p s l a b 31) (h : wX_execute_634 post (nI p) 31 ql pr ex kd ns np wo en st pp (upd sp p (sp p + 1)) pc pg pn (upd rg (p * 4 + a) (rg (p * 4 + a))) ds fi ow po pw pl qu ou) : wpX_execute post (ql, pr, ex, kd, ns, np, wo, en, st, pp, sp, pc, pg, pn, rg, ds, fi, ow, po, pw, pl, qu, ou) (nI p) := by
  obtain ⟨hp, hi, ho, ha, ea, hb, eb⟩ := H
  obtain ⟨h1, h2, h3, h4⟩ := id hi
  have cl : (nI p).toNatClampNeg = p := ux_c (by omega)
  have iv : vp_in (nI p) 5 := vp_in_nI hp (by decide)
  have e20 : nI p * 20 + sp p = nI (p * 20 + s) := by rw [h3, ux_mul_l, nI_add]
  have ea4 : nI p * 4 + ((pg (p * 20 + s) >>> ((5 : Int32) &&& 31)) &&& 3) = nI (p * 4 + a) := by rw [ea, ux_mul_l, nI_add]
  have eb4 : nI p * 4 + ((pg (p * 20 + s) >>> ((7 : Int32) &&& 31)) &&& 3) = nI (p * 4 + b) := by rw [eb, ux_mul_l, nI_add]
  have e34 : nI p * 4 + 3 = nI (p * 4 + 3) := by rw [ux_mul_l, ux_add_l]
  have ca : (nI (p * 4 + a)).toNatClampNeg = p * 4 + a := ux_c (by omega)
  have cb : (nI (p * 4 + b)).toNatClampNeg = p * 4 + b := ux_c (by omega)
  have c3 : (nI (p * 4 + 3)).toNatClampNeg = p * 4 + 3 := ux_c (by omega)
  have va : vp_in (nI (p * 4 + a)) 20 := vp_in_nI (by omega) (by decide)
  have vb : vp_in (nI (p * 4 + b)) 20 := vp_in_nI (by omega) (by decide)
  have v3 : vp_in (nI (p * 4 + 3)) 20 := vp_in_nI (by omega) (by decide)
  unfold wpX_execute
  refine xa_ip1 hp hi (br_f (by decide) ⟨iv, ?_⟩)
  rw [cl, e20, ux_c (n := p * 20 + s) (by omega)]
  refine ⟨vp_in_nI (by omega) (by decide), nm_e (nm_r ho (nm_r ea4 (nm_r eb4 (nm_r e34 (nm_e ⟨iv, iv, nm_e (br_f (by decide) <| br_t (by decide) <| ?_)⟩)))))⟩
  unfold wX_execute_606
  rw [ca, cb]
  exact ⟨va, vb, br_f (by decide) <| br_t (by decide) <| ⟨va, nm_e h⟩⟩
theorem xj_7z {post : Int32 → SX → Prop} (H : ux_in sp pn pg p s l a b 7) (hz : rg (p * 4 + a) = 0) (h : wX_execute_634 post (nI p) 7 ql pr ex kd ns np wo en st pp (upd (upd sp p (sp p + 1)) p (pg (p * 20 + s) >>> ((9 : Int32) &&& 31))) pc pg pn rg ds fi ow po pw pl qu ou) : wpX_execute post (ql, pr, ex, kd, ns, np, wo, en, st, pp, sp, pc, pg, pn, rg, ds, fi, ow, po, pw, pl, qu, ou) (nI p) := by
  obtain ⟨hp, hi, ho, ha, ea, hb, eb⟩ := H
  obtain ⟨h1, h2, h3, h4⟩ := id hi
  have cl : (nI p).toNatClampNeg = p := ux_c (by omega)
  have iv : vp_in (nI p) 5 := vp_in_nI hp (by decide)
  have e20 : nI p * 20 + sp p = nI (p * 20 + s) := by rw [h3, ux_mul_l, nI_add]
  have ea4 : nI p * 4 + ((pg (p * 20 + s) >>> ((5 : Int32) &&& 31)) &&& 3) = nI (p * 4 + a) := by rw [ea, ux_mul_l, nI_add]
  have eb4 : nI p * 4 + ((pg (p * 20 + s) >>> ((7 : Int32) &&& 31)) &&& 3) = nI (p * 4 + b) := by rw [eb, ux_mul_l, nI_add]
  have e34 : nI p * 4 + 3 = nI (p * 4 + 3) := by rw [ux_mul_l, ux_add_l]
  have ca : (nI (p * 4 + a)).toNatClampNeg = p * 4 + a := ux_c (by omega)
  have cb : (nI (p * 4 + b)).toNatClampNeg = p * 4 + b := ux_c (by omega)
  have c3 : (nI (p * 4 + 3)).toNatClampNeg = p * 4 + 3 := ux_c (by omega)
  have va : vp_in (nI (p * 4 + a)) 20 := vp_in_nI (by omega) (by decide)
  have vb : vp_in (nI (p * 4 + b)) 20 := vp_in_nI (by omega) (by decide)
  have v3 : vp_in (nI (p * 4 + 3)) 20 := vp_in_nI (by omega) (by decide)
  unfold wpX_execute
  refine xa_ip1 hp hi (br_f (by decide) ⟨iv, ?_⟩)
  rw [cl, e20, ux_c (n := p * 20 + s) (by omega)]
  refine ⟨vp_in_nI (by omega) (by decide), nm_e (nm_r ho (nm_r ea4 (nm_r eb4 (nm_r e34 (nm_e ⟨iv, iv, nm_e (br_f (by decide) <| br_f (by decide) <| br_f (by decide) <| br_f (by decide) <| br_f (by decide) <| br_f (by decide) <| br_f (by decide) <| br_f (by decide) <| br_f (by decide) <| br_t rfl <| ?_)⟩)))))⟩
  rw [ca]
  refine ⟨va, br_t hz ?_⟩
  refine br_f (by decide) ⟨iv, ?_⟩
  rw [cl]
  exact nm_e h
theorem xj_7n {post : Int32 → SX → Prop} (H : ux_in sp pn pg p s l a b 7) (hz : rg (p * 4 + a) ≠ 0) (h : wX_execute_634 post (nI p) 7 ql pr ex kd ns np wo en st pp (upd sp p (sp p + 1)) pc pg pn rg ds fi ow po pw pl qu ou) : wpX_execute post (ql, pr, ex, kd, ns, np, wo, en, st, pp, sp, pc, pg, pn, rg, ds, fi, ow, po, pw, pl, qu, ou) (nI p) := by
  obtain ⟨hp, hi, ho, ha, ea, hb, eb⟩ := H
  obtain ⟨h1, h2, h3, h4⟩ := id hi
  have cl : (nI p).toNatClampNeg = p := ux_c (by omega)
  have iv : vp_in (nI p) 5 := vp_in_nI hp (by decide)
  have e20 : nI p * 20 + sp p = nI (p * 20 + s) := by rw [h3, ux_mul_l, nI_add]
  have ea4 : nI p * 4 + ((pg (p * 20 + s) >>> ((5 : Int32) &&& 31)) &&& 3) = nI (p * 4 + a) := by rw [ea, ux_mul_l, nI_add]
  have eb4 : nI p * 4 + ((pg (p * 20 + s) >>> ((7 : Int32) &&& 31)) &&& 3) = nI (p * 4 + b) := by rw [eb, ux_mul_l, nI_add]
  have e34 : nI p * 4 + 3 = nI (p * 4 + 3) := by rw [ux_mul_l, ux_add_l]
  have ca : (nI (p * 4 + a)).toNatClampNeg = p * 4 + a := ux_c (by omega)
  have cb : (nI (p * 4 + b)).toNatClampNeg = p * 4 + b := ux_c (by omega)
  have c3 : (nI (p * 4 + 3)).toNatClampNeg = p * 4 + 3 := ux_c (by omega)
  have va : vp_in (nI (p * 4 + a)) 20 := vp_in_nI (by omega) (by decide)
  have vb : vp_in (nI (p * 4 + b)) 20 := vp_in_nI (by omega) (by decide)
  have v3 : vp_in (nI (p * 4 + 3)) 20 := vp_in_nI (by omega) (by decide)
  unfold wpX_execute
  refine xa_ip1 hp hi (br_f (by decide) ⟨iv, ?_⟩)
  rw [cl, e20, ux_c (n := p * 20 + s) (by omega)]
  refine ⟨vp_in_nI (by omega) (by decide), nm_e (nm_r ho (nm_r ea4 (nm_r eb4 (nm_r e34 (nm_e ⟨iv, iv, nm_e (br_f (by decide) <| br_f (by decide) <| br_f (by decide) <| br_f (by decide) <| br_f (by decide) <| br_f (by decide) <| br_f (by decide) <| br_f (by decide) <| br_f (by decide) <| br_t rfl <| ?_)⟩)))))⟩
  rw [ca]
  refine ⟨va, br_f hz ?_⟩
  exact br_t rfl h
theorem xj_9z {post : Int32 → SX → Prop} (H : ux_in sp pn pg p s l a b 9) (hz : rg (p * 4 + a) = 0) (h : wX_execute_634 post (nI p) 9 ql pr ex kd ns np wo en st pp (upd sp p (sp p + 1)) pc pg pn rg ds fi ow po pw pl qu ou) : wpX_execute post (ql, pr, ex, kd, ns, np, wo, en, st, pp, sp, pc, pg, pn, rg, ds, fi, ow, po, pw, pl, qu, ou) (nI p) := by
  obtain ⟨hp, hi, ho, ha, ea, hb, eb⟩ := H
  obtain ⟨h1, h2, h3, h4⟩ := id hi
  have cl : (nI p).toNatClampNeg = p := ux_c (by omega)
  have iv : vp_in (nI p) 5 := vp_in_nI hp (by decide)
  have e20 : nI p * 20 + sp p = nI (p * 20 + s) := by rw [h3, ux_mul_l, nI_add]
  have ea4 : nI p * 4 + ((pg (p * 20 + s) >>> ((5 : Int32) &&& 31)) &&& 3) = nI (p * 4 + a) := by rw [ea, ux_mul_l, nI_add]
  have eb4 : nI p * 4 + ((pg (p * 20 + s) >>> ((7 : Int32) &&& 31)) &&& 3) = nI (p * 4 + b) := by rw [eb, ux_mul_l, nI_add]
  have e34 : nI p * 4 + 3 = nI (p * 4 + 3) := by rw [ux_mul_l, ux_add_l]
  have ca : (nI (p * 4 + a)).toNatClampNeg = p * 4 + a := ux_c (by omega)
  have cb : (nI (p * 4 + b)).toNatClampNeg = p * 4 + b := ux_c (by omega)
  have c3 : (nI (p * 4 + 3)).toNatClampNeg = p * 4 + 3 := ux_c (by omega)
  have va : vp_in (nI (p * 4 + a)) 20 := vp_in_nI (by omega) (by decide)
  have vb : vp_in (nI (p * 4 + b)) 20 := vp_in_nI (by omega) (by decide)
  have v3 : vp_in (nI (p * 4 + 3)) 20 := vp_in_nI (by omega) (by decide)
  unfold wpX_execute
  refine xa_ip1 hp hi (br_f (by decide) ⟨iv, ?_⟩)
  rw [cl, e20, ux_c (n := p * 20 + s) (by omega)]
  refine ⟨vp_in_nI (by omega) (by decide), nm_e (nm_r ho (nm_r ea4 (nm_r eb4 (nm_r e34 (nm_e ⟨iv, iv, nm_e (br_f (by decide) <| br_f (by decide) <| br_f (by decide) <| br_f (by decide) <| br_f (by decide) <| br_f (by decide) <| br_f (by decide) <| br_f (by decide) <| br_f (by decide) <| br_f (by decide) <| br_f (by decide) <| br_t rfl <| ?_)⟩)))))⟩
  rw [ca]
  refine ⟨va, br_t hz ?_⟩
  exact br_t rfl h
theorem xj_9n {post : Int32 → SX → Prop} (H : ux_in sp pn pg p s l a b 9) (hz : rg (p * 4 + a) ≠ 0) (h : wX_execute_634 post (nI p) 9 ql pr ex kd ns np wo en st pp (upd (upd sp p (sp p + 1)) p (pg (p * 20 + s) >>> ((9 : Int32) &&& 31))) pc pg pn rg ds fi ow po pw pl qu ou) : wpX_execute post (ql, pr, ex, kd, ns, np, wo, en, st, pp, sp, pc, pg, pn, rg, ds, fi, ow, po, pw, pl, qu, ou) (nI p) := by
  obtain ⟨hp, hi, ho, ha, ea, hb, eb⟩ := H
  obtain ⟨h1, h2, h3, h4⟩ := id hi
  have cl : (nI p).toNatClampNeg = p := ux_c (by omega)
  have iv : vp_in (nI p) 5 := vp_in_nI hp (by decide)
  have e20 : nI p * 20 + sp p = nI (p * 20 + s) := by rw [h3, ux_mul_l, nI_add]
  have ea4 : nI p * 4 + ((pg (p * 20 + s) >>> ((5 : Int32) &&& 31)) &&& 3) = nI (p * 4 + a) := by rw [ea, ux_mul_l, nI_add]
  have eb4 : nI p * 4 + ((pg (p * 20 + s) >>> ((7 : Int32) &&& 31)) &&& 3) = nI (p * 4 + b) := by rw [eb, ux_mul_l, nI_add]
  have e34 : nI p * 4 + 3 = nI (p * 4 + 3) := by rw [ux_mul_l, ux_add_l]
  have ca : (nI (p * 4 + a)).toNatClampNeg = p * 4 + a := ux_c (by omega)
  have cb : (nI (p * 4 + b)).toNatClampNeg = p * 4 + b := ux_c (by omega)
  have c3 : (nI (p * 4 + 3)).toNatClampNeg = p * 4 + 3 := ux_c (by omega)
  have va : vp_in (nI (p * 4 + a)) 20 := vp_in_nI (by omega) (by decide)
  have vb : vp_in (nI (p * 4 + b)) 20 := vp_in_nI (by omega) (by decide)
  have v3 : vp_in (nI (p * 4 + 3)) 20 := vp_in_nI (by omega) (by decide)
  unfold wpX_execute
  refine xa_ip1 hp hi (br_f (by decide) ⟨iv, ?_⟩)
  rw [cl, e20, ux_c (n := p * 20 + s) (by omega)]
  refine ⟨vp_in_nI (by omega) (by decide), nm_e (nm_r ho (nm_r ea4 (nm_r eb4 (nm_r e34 (nm_e ⟨iv, iv, nm_e (br_f (by decide) <| br_f (by decide) <| br_f (by decide) <| br_f (by decide) <| br_f (by decide) <| br_f (by decide) <| br_f (by decide) <| br_f (by decide) <| br_f (by decide) <| br_f (by decide) <| br_f (by decide) <| br_t rfl <| ?_)⟩)))))⟩
  rw [ca]
  refine ⟨va, br_f hz ?_⟩
  refine br_f (by decide) ⟨iv, ?_⟩
  rw [cl]
  exact nm_e h
theorem xj_8 {post : Int32 → SX → Prop} (H : ux_in sp pn pg p s l a b 8) (h : wX_execute_634 post (nI p) 8 ql pr ex kd ns np wo en st pp (upd (upd sp p (sp p + 1)) p (pg (p * 20 + s) >>> ((9 : Int32) &&& 31))) pc pg pn rg ds fi ow po pw pl qu ou) : wpX_execute post (ql, pr, ex, kd, ns, np, wo, en, st, pp, sp, pc, pg, pn, rg, ds, fi, ow, po, pw, pl, qu, ou) (nI p) := by
  obtain ⟨hp, hi, ho, ha, ea, hb, eb⟩ := H
  obtain ⟨h1, h2, h3, h4⟩ := id hi
  have cl : (nI p).toNatClampNeg = p := ux_c (by omega)
  have iv : vp_in (nI p) 5 := vp_in_nI hp (by decide)
  have e20 : nI p * 20 + sp p = nI (p * 20 + s) := by rw [h3, ux_mul_l, nI_add]
  have ea4 : nI p * 4 + ((pg (p * 20 + s) >>> ((5 : Int32) &&& 31)) &&& 3) = nI (p * 4 + a) := by rw [ea, ux_mul_l, nI_add]
  have eb4 : nI p * 4 + ((pg (p * 20 + s) >>> ((7 : Int32) &&& 31)) &&& 3) = nI (p * 4 + b) := by rw [eb, ux_mul_l, nI_add]
  have e34 : nI p * 4 + 3 = nI (p * 4 + 3) := by rw [ux_mul_l, ux_add_l]
  have ca : (nI (p * 4 + a)).toNatClampNeg = p * 4 + a := ux_c (by omega)
  have cb : (nI (p * 4 + b)).toNatClampNeg = p * 4 + b := ux_c (by omega)
  have c3 : (nI (p * 4 + 3)).toNatClampNeg = p * 4 + 3 := ux_c (by omega)
  have va : vp_in (nI (p * 4 + a)) 20 := vp_in_nI (by omega) (by decide)
  have vb : vp_in (nI (p * 4 + b)) 20 := vp_in_nI (by omega) (by decide)
  have v3 : vp_in (nI (p * 4 + 3)) 20 := vp_in_nI (by omega) (by decide)
  unfold wpX_execute
  refine xa_ip1 hp hi (br_f (by decide) ⟨iv, ?_⟩)
  rw [cl, e20, ux_c (n := p * 20 + s) (by omega)]
  refine ⟨vp_in_nI (by omega) (by decide), nm_e (nm_r ho (nm_r ea4 (nm_r eb4 (nm_r e34 (nm_e ⟨iv, iv, nm_e (br_f (by decide) <| br_f (by decide) <| br_f (by decide) <| br_f (by decide) <| br_f (by decide) <| br_f (by decide) <| br_f (by decide) <| br_f (by decide) <| br_f (by decide) <| br_f (by decide) <| br_t rfl <| ?_)⟩)))))⟩
  refine br_f (by decide) ⟨iv, ?_⟩
  rw [cl]
  exact nm_e h
theorem xj_26 {post : Int32 → SX → Prop} (H : ux_in sp pn pg p s l a b 26) (h : wX_execute_634 post (nI p) 26 ql pr ex kd ns np wo en st pp (upd sp p (sp p + 1)) pc pg pn (upd rg (p * 4 + a) (nI p)) ds fi ow po pw pl qu ou) : wpX_execute post (ql, pr, ex, kd, ns, np, wo, en, st, pp, sp, pc, pg, pn, rg, ds, fi, ow, po, pw, pl, qu, ou) (nI p) := by
  obtain ⟨hp, hi, ho, ha, ea, hb, eb⟩ := H
  obtain ⟨h1, h2, h3, h4⟩ := id hi
  have cl : (nI p).toNatClampNeg = p := ux_c (by omega)
  have iv : vp_in (nI p) 5 := vp_in_nI hp (by decide)
  have e20 : nI p * 20 + sp p = nI (p * 20 + s) := by rw [h3, ux_mul_l, nI_add]
  have ea4 : nI p * 4 + ((pg (p * 20 + s) >>> ((5 : Int32) &&& 31)) &&& 3) = nI (p * 4 + a) := by rw [ea, ux_mul_l, nI_add]
  have eb4 : nI p * 4 + ((pg (p * 20 + s) >>> ((7 : Int32) &&& 31)) &&& 3) = nI (p * 4 + b) := by rw [eb, ux_mul_l, nI_add]
  have e34 : nI p * 4 + 3 = nI (p * 4 + 3) := by rw [ux_mul_l, ux_add_l]
  have ca : (nI (p * 4 + a)).toNatClampNeg = p * 4 + a := ux_c (by omega)
  have cb : (nI (p * 4 + b)).toNatClampNeg = p * 4 + b := ux_c (by omega)
  have c3 : (nI (p * 4 + 3)).toNatClampNeg = p * 4 + 3 := ux_c (by omega)
  have va : vp_in (nI (p * 4 + a)) 20 := vp_in_nI (by omega) (by decide)
  have vb : vp_in (nI (p * 4 + b)) 20 := vp_in_nI (by omega) (by decide)
  have v3 : vp_in (nI (p * 4 + 3)) 20 := vp_in_nI (by omega) (by decide)
  unfold wpX_execute
  refine xa_ip1 hp hi (br_f (by decide) ⟨iv, ?_⟩)
  rw [cl, e20, ux_c (n := p * 20 + s) (by omega)]
  refine ⟨vp_in_nI (by omega) (by decide), nm_e (nm_r ho (nm_r ea4 (nm_r eb4 (nm_r e34 (nm_e ⟨iv, iv, nm_e (br_f (by decide) <| br_f (by decide) <| br_f (by decide) <| br_f (by decide) <| br_f (by decide) <| br_f (by decide) <| br_f (by decide) <| br_f (by decide) <| br_f (by decide) <| br_f (by decide) <| br_f (by decide) <| br_f (by decide) <| br_f (by decide) <| br_f (by decide) <| br_f (by decide) <| br_f (by decide) <| br_f (by decide) <| br_f (by decide) <| br_f (by decide) <| br_f (by decide) <| br_f (by decide) <| br_f (by decide) <| br_f (by decide) <| br_f (by decide) <| br_f (by decide) <| br_f (by decide) <| br_f (by decide) <| br_f (by decide) <| br_t rfl <| ?_)⟩)))))⟩
  rw [ca]
  exact ⟨va, nm_e h⟩
theorem xj_27 {post : Int32 → SX → Prop} (H : ux_in sp pn pg p s l a b 27) (h : ∀ Q : Int32 → Prop, (∀ r, wX_execute_634 post (nI p) 27 ql pr ex kd ns np wo en st pp (upd sp p (sp p + 1)) pc pg pn (upd rg (p * 4 + a) r) ds fi ow po pw pl qu ou → Q r) → wpX_sizeNamed Q (ql, pr, ex, kd, ns, np, wo, en, st, pp, upd sp p (sp p + 1), pc, pg, pn, rg, ds, fi, ow, po, pw, pl, qu, ou) (nI p) (rg (p * 4 + a))) : wpX_execute post (ql, pr, ex, kd, ns, np, wo, en, st, pp, sp, pc, pg, pn, rg, ds, fi, ow, po, pw, pl, qu, ou) (nI p) := by
  obtain ⟨hp, hi, ho, ha, ea, hb, eb⟩ := H
  obtain ⟨h1, h2, h3, h4⟩ := id hi
  have cl : (nI p).toNatClampNeg = p := ux_c (by omega)
  have iv : vp_in (nI p) 5 := vp_in_nI hp (by decide)
  have e20 : nI p * 20 + sp p = nI (p * 20 + s) := by rw [h3, ux_mul_l, nI_add]
  have ea4 : nI p * 4 + ((pg (p * 20 + s) >>> ((5 : Int32) &&& 31)) &&& 3) = nI (p * 4 + a) := by rw [ea, ux_mul_l, nI_add]
  have eb4 : nI p * 4 + ((pg (p * 20 + s) >>> ((7 : Int32) &&& 31)) &&& 3) = nI (p * 4 + b) := by rw [eb, ux_mul_l, nI_add]
  have e34 : nI p * 4 + 3 = nI (p * 4 + 3) := by rw [ux_mul_l, ux_add_l]
  have ca : (nI (p * 4 + a)).toNatClampNeg = p * 4 + a := ux_c (by omega)
  have cb : (nI (p * 4 + b)).toNatClampNeg = p * 4 + b := ux_c (by omega)
  have c3 : (nI (p * 4 + 3)).toNatClampNeg = p * 4 + 3 := ux_c (by omega)
  have va : vp_in (nI (p * 4 + a)) 20 := vp_in_nI (by omega) (by decide)
  have vb : vp_in (nI (p * 4 + b)) 20 := vp_in_nI (by omega) (by decide)
  have v3 : vp_in (nI (p * 4 + 3)) 20 := vp_in_nI (by omega) (by decide)
  unfold wpX_execute
  refine xa_ip1 hp hi (br_f (by decide) ⟨iv, ?_⟩)
  rw [cl, e20, ux_c (n := p * 20 + s) (by omega)]
  refine ⟨vp_in_nI (by omega) (by decide), nm_e (nm_r ho (nm_r ea4 (nm_r eb4 (nm_r e34 (nm_e ⟨iv, iv, nm_e (br_f (by decide) <| br_f (by decide) <| br_f (by decide) <| br_f (by decide) <| br_f (by decide) <| br_f (by decide) <| br_f (by decide) <| br_f (by decide) <| br_f (by decide) <| br_f (by decide) <| br_f (by decide) <| br_f (by decide) <| br_f (by decide) <| br_f (by decide) <| br_f (by decide) <| br_f (by decide) <| br_f (by decide) <| br_f (by decide) <| br_f (by decide) <| br_f (by decide) <| br_f (by decide) <| br_f (by decide) <| br_f (by decide) <| br_f (by decide) <| br_f (by decide) <| br_f (by decide) <| br_f (by decide) <| br_f (by decide) <| br_f (by decide) <| br_t rfl <| ?_)⟩)))))⟩
  rw [ca]
  exact ⟨va, h _ (fun r hr => ⟨va, nm_e hr⟩)⟩
theorem xj_out {post : Int32 → SX → Prop} (hp : p < 5) (hu : ux_up sp pn p l) (h : ∀ Q : SX → Prop, (∀ u, post 0 u → Q u) → wpX_endProcess Q (ql, pr, ex, kd, ns, np, wo, en, st, pp, sp, pc, pg, pn, rg, ds, fi, ow, po, pw, pl, qu, ou) (nI p) (-4)) : wpX_execute post (ql, pr, ex, kd, ns, np, wo, en, st, pp, sp, pc, pg, pn, rg, ds, fi, ow, po, pw, pl, qu, ou) (nI p) := by
  unfold wpX_execute
  exact xa_ip0 hp hu (br_t rfl (h _ (fun u hu => hu)))
end UX15X
end
section
section UX15Y
variable {ql pr go : Int32} {ex : Int64} {kd ns le wo en et np st qp sp pn pg rg ee ds pc fi ow po pl pw qu ou : Nat → Int32}
variable {p s l a b : Nat} {x : Int32}
def yk (post : Int32 → SY → Prop) (p : Nat) (x : Int32) (u : SY) : Prop := match u with
  | (ql, ex, pr, go, kd, le, wo, et, np, st, qp, sp, pn, pg, rg, ee, pc, fi, ow, po, pl, pw, qu, ou) => wY_execute_262 post (nI p) x ql ex pr go kd le wo et np st qp sp pn pg rg ee pc fi ow po pl pw qu ou
theorem y262a {post : Int32 → SY → Prop} (hp : p < 5) (hg : go = 1) (hx : ¬ x = 25) (h : post 1 (ql, ex, pr, go, kd, le, wo, et, np, st, qp, upd sp p (sp p + 1), pn, pg, rg, ee, pc, fi, ow, po, pl, pw, qu, ou)) : wY_execute_262 post (nI p) x ql ex pr go kd le wo et np st qp sp pn pg rg ee pc fi ow po pl pw qu ou := by
  unfold wY_execute_262
  rw [ux_c (by omega)]
  exact br_f (by rw [hg]; decide) ⟨vp_in_nI hp (by decide), vp_in_nI hp (by decide), nm_e (br_f hx h)⟩
theorem y262y {post : Int32 → SY → Prop} (hp : p < 5) (hg : go = 1) (h : post 0 (ql, ex, pr, go, kd, le, wo, et, np, st, qp, upd sp p (sp p + 1), pn, pg, rg, ee, pc, fi, ow, po, pl, pw, qu, ou)) : wY_execute_262 post (nI p) 25 ql ex pr go kd le wo et np st qp sp pn pg rg ee pc fi ow po pl pw qu ou := by
  unfold wY_execute_262
  rw [ux_c (by omega)]
  exact br_f (by rw [hg]; decide) ⟨vp_in_nI hp (by decide), vp_in_nI hp (by decide), nm_e (br_t rfl h)⟩
theorem y262e {post : Int32 → SY → Prop} (hg : go = 0) (h : post 0 (ql, ex, pr, go, kd, le, wo, et, np, st, qp, sp, pn, pg, rg, ee, pc, fi, ow, po, pl, pw, qu, ou)) : wY_execute_262 post (nI p) x ql ex pr go kd le wo et np st qp sp pn pg rg ee pc fi ow po pl pw qu ou := by
  unfold wY_execute_262
  exact br_t hg h

theorem yj_13 {post : Int32 → SY → Prop} (H : ux_in sp pn pg p s l a b 13) (h : ∀ Q : SY → Prop, (∀ u, yk post p 13 u → Q u) → wpY_open Q (ql, ex + 1, pr, 1, kd, le, wo, et, np, st, qp, sp, pn, pg, rg, ee, pc, fi, ow, po, pl, pw, qu, ou) (nI p) (nI a) ((pg (p * 20 + s) >>> ((9 : Int32) &&& 31)) &&& 3)) : wpY_execute post (ql, ex, pr, go, kd, le, wo, et, np, st, qp, sp, pn, pg, rg, ee, pc, fi, ow, po, pl, pw, qu, ou) (nI p) := by
  obtain ⟨hp, hi, ho, ha, ea, hb, eb⟩ := H
  obtain ⟨h1, h2, h3, h4⟩ := id hi
  have cl : (nI p).toNatClampNeg = p := ux_c (by omega)
  have iv : vp_in (nI p) 5 := vp_in_nI hp (by decide)
  have e20 : 20 * nI p + sp p = nI (p * 20 + s) := by rw [h3, ux_l_mul, nI_add, Nat.mul_comm]
  have e4 : 4 * nI p + nI a = nI (p * 4 + a) := by rw [ux_l_mul, nI_add, Nat.mul_comm]
  have f4 : 4 * nI p + nI b = nI (p * 4 + b) := by rw [ux_l_mul, nI_add, Nat.mul_comm]
  have ca : (nI (p * 4 + a)).toNatClampNeg = p * 4 + a := ux_c (by omega)
  have cb : (nI (p * 4 + b)).toNatClampNeg = p * 4 + b := ux_c (by omega)
  have va : vp_in (nI (p * 4 + a)) 20 := vp_in_nI (by omega) (by decide)
  have vb : vp_in (nI (p * 4 + b)) 20 := vp_in_nI (by omega) (by decide)
  have g1 : ¬ sp p < 0 := by rw [h3]; exact nI_pos (by omega)
  have g2 : ¬ pn p - 1 < sp p := by
    obtain ⟨t, rfl⟩ : ∃ t, l = t + 1 := ⟨l - 1, by omega⟩
    rw [h3, h4, nI_pred]; exact nI_nlt (by omega) (by omega)
  unfold wpY_execute
  dsimp only
  rw [cl, e20, ux_c (n := p * 20 + s) (by omega)]
  refine nm_e ⟨iv, iv, ya_inT g1 g2 (br_f (by decide) ⟨iv, vp_in_nI (by omega) (by decide), nm_e (nm_r ho (nm_r ea (nm_e ?_)))⟩)⟩
  rw [e4, ca]
  refine ⟨va, nm_e (br_f (by decide) <| br_f (by decide) <| br_t (by decide) <| br_f (by decide) <| br_f (by decide) <| br_t (by decide) <| ?_)⟩
  unfold wY_execute_227
  rw [eb]
  refine br_t rfl (h _ (fun u hu => ?_))
  obtain ⟨ql, ex, pr, go, kd, le, wo, et, np, st, qp, sp, pn, pg, rg, ee, pc, fi, ow, po, pl, pw, qu, ou⟩ := u
  exact br_f (by decide) <| br_f (by decide) <| br_f (by decide) <| br_f (by decide) <| br_f (by decide) <| br_f (by decide) <| br_f (by decide) <| br_f (by decide) <| br_f (by decide) <| br_f (by decide) <| br_f (by decide) <| hu
theorem yj_14 {post : Int32 → SY → Prop} (H : ux_in sp pn pg p s l a b 14) (h : ∀ Q : SY → Prop, (∀ u, yk post p 14 u → Q u) → wpY_close Q (ql, ex + 1, pr, 1, kd, le, wo, et, np, st, qp, sp, pn, pg, rg, ee, pc, fi, ow, po, pl, pw, qu, ou) (nI p) (nI b)) : wpY_execute post (ql, ex, pr, go, kd, le, wo, et, np, st, qp, sp, pn, pg, rg, ee, pc, fi, ow, po, pl, pw, qu, ou) (nI p) := by
  obtain ⟨hp, hi, ho, ha, ea, hb, eb⟩ := H
  obtain ⟨h1, h2, h3, h4⟩ := id hi
  have cl : (nI p).toNatClampNeg = p := ux_c (by omega)
  have iv : vp_in (nI p) 5 := vp_in_nI hp (by decide)
  have e20 : 20 * nI p + sp p = nI (p * 20 + s) := by rw [h3, ux_l_mul, nI_add, Nat.mul_comm]
  have e4 : 4 * nI p + nI a = nI (p * 4 + a) := by rw [ux_l_mul, nI_add, Nat.mul_comm]
  have f4 : 4 * nI p + nI b = nI (p * 4 + b) := by rw [ux_l_mul, nI_add, Nat.mul_comm]
  have ca : (nI (p * 4 + a)).toNatClampNeg = p * 4 + a := ux_c (by omega)
  have cb : (nI (p * 4 + b)).toNatClampNeg = p * 4 + b := ux_c (by omega)
  have va : vp_in (nI (p * 4 + a)) 20 := vp_in_nI (by omega) (by decide)
  have vb : vp_in (nI (p * 4 + b)) 20 := vp_in_nI (by omega) (by decide)
  have g1 : ¬ sp p < 0 := by rw [h3]; exact nI_pos (by omega)
  have g2 : ¬ pn p - 1 < sp p := by
    obtain ⟨t, rfl⟩ : ∃ t, l = t + 1 := ⟨l - 1, by omega⟩
    rw [h3, h4, nI_pred]; exact nI_nlt (by omega) (by omega)
  unfold wpY_execute
  dsimp only
  rw [cl, e20, ux_c (n := p * 20 + s) (by omega)]
  refine nm_e ⟨iv, iv, ya_inT g1 g2 (br_f (by decide) ⟨iv, vp_in_nI (by omega) (by decide), nm_e (nm_r ho (nm_r ea (nm_e ?_)))⟩)⟩
  rw [e4, ca]
  refine ⟨va, nm_e (br_f (by decide) <| br_f (by decide) <| br_t (by decide) <| br_f (by decide) <| br_f (by decide) <| br_t (by decide) <| ?_)⟩
  unfold wY_execute_227
  rw [eb]
  refine br_f (by decide) <| br_t rfl (h _ (fun u hu => ?_))
  obtain ⟨ql, ex, pr, go, kd, le, wo, et, np, st, qp, sp, pn, pg, rg, ee, pc, fi, ow, po, pl, pw, qu, ou⟩ := u
  exact br_f (by decide) <| br_f (by decide) <| br_f (by decide) <| br_f (by decide) <| br_f (by decide) <| br_f (by decide) <| br_f (by decide) <| br_f (by decide) <| br_f (by decide) <| br_f (by decide) <| hu
theorem yj_15 {post : Int32 → SY → Prop} (H : ux_in sp pn pg p s l a b 15) (h : ∀ Q : SY → Prop, (∀ u, yk post p 15 u → Q u) → wpY_read Q (ql, ex + 1, pr, 1, kd, le, wo, et, np, st, qp, sp, pn, pg, rg, ee, pc, fi, ow, po, pl, pw, qu, ou) (nI p) (nI a) (nI b)) : wpY_execute post (ql, ex, pr, go, kd, le, wo, et, np, st, qp, sp, pn, pg, rg, ee, pc, fi, ow, po, pl, pw, qu, ou) (nI p) := by
  obtain ⟨hp, hi, ho, ha, ea, hb, eb⟩ := H
  obtain ⟨h1, h2, h3, h4⟩ := id hi
  have cl : (nI p).toNatClampNeg = p := ux_c (by omega)
  have iv : vp_in (nI p) 5 := vp_in_nI hp (by decide)
  have e20 : 20 * nI p + sp p = nI (p * 20 + s) := by rw [h3, ux_l_mul, nI_add, Nat.mul_comm]
  have e4 : 4 * nI p + nI a = nI (p * 4 + a) := by rw [ux_l_mul, nI_add, Nat.mul_comm]
  have f4 : 4 * nI p + nI b = nI (p * 4 + b) := by rw [ux_l_mul, nI_add, Nat.mul_comm]
  have ca : (nI (p * 4 + a)).toNatClampNeg = p * 4 + a := ux_c (by omega)
  have cb : (nI (p * 4 + b)).toNatClampNeg = p * 4 + b := ux_c (by omega)
  have va : vp_in (nI (p * 4 + a)) 20 := vp_in_nI (by omega) (by decide)
  have vb : vp_in (nI (p * 4 + b)) 20 := vp_in_nI (by omega) (by decide)
  have g1 : ¬ sp p < 0 := by rw [h3]; exact nI_pos (by omega)
  have g2 : ¬ pn p - 1 < sp p := by
    obtain ⟨t, rfl⟩ : ∃ t, l = t + 1 := ⟨l - 1, by omega⟩
    rw [h3, h4, nI_pred]; exact nI_nlt (by omega) (by omega)
  unfold wpY_execute
  dsimp only
  rw [cl, e20, ux_c (n := p * 20 + s) (by omega)]
  refine nm_e ⟨iv, iv, ya_inT g1 g2 (br_f (by decide) ⟨iv, vp_in_nI (by omega) (by decide), nm_e (nm_r ho (nm_r ea (nm_e ?_)))⟩)⟩
  rw [e4, ca]
  refine ⟨va, nm_e (br_f (by decide) <| br_f (by decide) <| br_t (by decide) <| br_f (by decide) <| br_f (by decide) <| br_t (by decide) <| ?_)⟩
  unfold wY_execute_227
  rw [eb]
  refine br_f (by decide) <| br_f (by decide) <| br_t rfl (h _ (fun u hu => ?_))
  obtain ⟨ql, ex, pr, go, kd, le, wo, et, np, st, qp, sp, pn, pg, rg, ee, pc, fi, ow, po, pl, pw, qu, ou⟩ := u
  exact br_f (by decide) <| br_f (by decide) <| br_f (by decide) <| br_f (by decide) <| br_f (by decide) <| br_f (by decide) <| br_f (by decide) <| br_f (by decide) <| br_f (by decide) <| hu
theorem yj_16 {post : Int32 → SY → Prop} (H : ux_in sp pn pg p s l a b 16) (h : ∀ Q : SY → Prop, (∀ u, yk post p 16 u → Q u) → wpY_write Q (ql, ex + 1, pr, 1, kd, le, wo, et, np, st, qp, sp, pn, pg, rg, ee, pc, fi, ow, po, pl, pw, qu, ou) (nI p) (nI a) (nI b)) : wpY_execute post (ql, ex, pr, go, kd, le, wo, et, np, st, qp, sp, pn, pg, rg, ee, pc, fi, ow, po, pl, pw, qu, ou) (nI p) := by
  obtain ⟨hp, hi, ho, ha, ea, hb, eb⟩ := H
  obtain ⟨h1, h2, h3, h4⟩ := id hi
  have cl : (nI p).toNatClampNeg = p := ux_c (by omega)
  have iv : vp_in (nI p) 5 := vp_in_nI hp (by decide)
  have e20 : 20 * nI p + sp p = nI (p * 20 + s) := by rw [h3, ux_l_mul, nI_add, Nat.mul_comm]
  have e4 : 4 * nI p + nI a = nI (p * 4 + a) := by rw [ux_l_mul, nI_add, Nat.mul_comm]
  have f4 : 4 * nI p + nI b = nI (p * 4 + b) := by rw [ux_l_mul, nI_add, Nat.mul_comm]
  have ca : (nI (p * 4 + a)).toNatClampNeg = p * 4 + a := ux_c (by omega)
  have cb : (nI (p * 4 + b)).toNatClampNeg = p * 4 + b := ux_c (by omega)
  have va : vp_in (nI (p * 4 + a)) 20 := vp_in_nI (by omega) (by decide)
  have vb : vp_in (nI (p * 4 + b)) 20 := vp_in_nI (by omega) (by decide)
  have g1 : ¬ sp p < 0 := by rw [h3]; exact nI_pos (by omega)
  have g2 : ¬ pn p - 1 < sp p := by
    obtain ⟨t, rfl⟩ : ∃ t, l = t + 1 := ⟨l - 1, by omega⟩
    rw [h3, h4, nI_pred]; exact nI_nlt (by omega) (by omega)
  unfold wpY_execute
  dsimp only
  rw [cl, e20, ux_c (n := p * 20 + s) (by omega)]
  refine nm_e ⟨iv, iv, ya_inT g1 g2 (br_f (by decide) ⟨iv, vp_in_nI (by omega) (by decide), nm_e (nm_r ho (nm_r ea (nm_e ?_)))⟩)⟩
  rw [e4, ca]
  refine ⟨va, nm_e (br_f (by decide) <| br_f (by decide) <| br_t (by decide) <| br_f (by decide) <| br_f (by decide) <| br_t (by decide) <| ?_)⟩
  unfold wY_execute_227
  rw [eb]
  refine br_f (by decide) <| br_f (by decide) <| br_f (by decide) <| br_t rfl (h _ (fun u hu => ?_))
  obtain ⟨ql, ex, pr, go, kd, le, wo, et, np, st, qp, sp, pn, pg, rg, ee, pc, fi, ow, po, pl, pw, qu, ou⟩ := u
  exact br_f (by decide) <| br_f (by decide) <| br_f (by decide) <| br_f (by decide) <| br_f (by decide) <| br_f (by decide) <| br_f (by decide) <| br_f (by decide) <| hu
theorem yj_17 {post : Int32 → SY → Prop} (H : ux_in sp pn pg p s l a b 17) (h : ∀ Q : SY → Prop, (∀ u, yk post p 17 u → Q u) → wpY_pipeNew Q (ql, ex + 1, pr, 1, kd, le, wo, et, np, st, qp, sp, pn, pg, rg, ee, pc, fi, ow, po, pl, pw, qu, ou) (nI p) (nI a) (nI b)) : wpY_execute post (ql, ex, pr, go, kd, le, wo, et, np, st, qp, sp, pn, pg, rg, ee, pc, fi, ow, po, pl, pw, qu, ou) (nI p) := by
  obtain ⟨hp, hi, ho, ha, ea, hb, eb⟩ := H
  obtain ⟨h1, h2, h3, h4⟩ := id hi
  have cl : (nI p).toNatClampNeg = p := ux_c (by omega)
  have iv : vp_in (nI p) 5 := vp_in_nI hp (by decide)
  have e20 : 20 * nI p + sp p = nI (p * 20 + s) := by rw [h3, ux_l_mul, nI_add, Nat.mul_comm]
  have e4 : 4 * nI p + nI a = nI (p * 4 + a) := by rw [ux_l_mul, nI_add, Nat.mul_comm]
  have f4 : 4 * nI p + nI b = nI (p * 4 + b) := by rw [ux_l_mul, nI_add, Nat.mul_comm]
  have ca : (nI (p * 4 + a)).toNatClampNeg = p * 4 + a := ux_c (by omega)
  have cb : (nI (p * 4 + b)).toNatClampNeg = p * 4 + b := ux_c (by omega)
  have va : vp_in (nI (p * 4 + a)) 20 := vp_in_nI (by omega) (by decide)
  have vb : vp_in (nI (p * 4 + b)) 20 := vp_in_nI (by omega) (by decide)
  have g1 : ¬ sp p < 0 := by rw [h3]; exact nI_pos (by omega)
  have g2 : ¬ pn p - 1 < sp p := by
    obtain ⟨t, rfl⟩ : ∃ t, l = t + 1 := ⟨l - 1, by omega⟩
    rw [h3, h4, nI_pred]; exact nI_nlt (by omega) (by omega)
  unfold wpY_execute
  dsimp only
  rw [cl, e20, ux_c (n := p * 20 + s) (by omega)]
  refine nm_e ⟨iv, iv, ya_inT g1 g2 (br_f (by decide) ⟨iv, vp_in_nI (by omega) (by decide), nm_e (nm_r ho (nm_r ea (nm_e ?_)))⟩)⟩
  rw [e4, ca]
  refine ⟨va, nm_e (br_f (by decide) <| br_f (by decide) <| br_t (by decide) <| br_f (by decide) <| br_f (by decide) <| br_t (by decide) <| ?_)⟩
  unfold wY_execute_227
  rw [eb]
  refine br_f (by decide) <| br_f (by decide) <| br_f (by decide) <| br_f (by decide) <| br_t rfl (h _ (fun u hu => ?_))
  obtain ⟨ql, ex, pr, go, kd, le, wo, et, np, st, qp, sp, pn, pg, rg, ee, pc, fi, ow, po, pl, pw, qu, ou⟩ := u
  exact br_f (by decide) <| br_f (by decide) <| br_f (by decide) <| br_f (by decide) <| br_f (by decide) <| br_f (by decide) <| br_f (by decide) <| hu
theorem yj_18 {post : Int32 → SY → Prop} (H : ux_in sp pn pg p s l a b 18) (h : ∀ Q : SY → Prop, (∀ u, yk post p 18 u → Q u) → wpY_copy Q (ql, ex + 1, pr, 1, kd, le, wo, et, np, st, qp, sp, pn, pg, rg, ee, pc, fi, ow, po, pl, pw, qu, ou) (nI p) (nI a) (nI b)) : wpY_execute post (ql, ex, pr, go, kd, le, wo, et, np, st, qp, sp, pn, pg, rg, ee, pc, fi, ow, po, pl, pw, qu, ou) (nI p) := by
  obtain ⟨hp, hi, ho, ha, ea, hb, eb⟩ := H
  obtain ⟨h1, h2, h3, h4⟩ := id hi
  have cl : (nI p).toNatClampNeg = p := ux_c (by omega)
  have iv : vp_in (nI p) 5 := vp_in_nI hp (by decide)
  have e20 : 20 * nI p + sp p = nI (p * 20 + s) := by rw [h3, ux_l_mul, nI_add, Nat.mul_comm]
  have e4 : 4 * nI p + nI a = nI (p * 4 + a) := by rw [ux_l_mul, nI_add, Nat.mul_comm]
  have f4 : 4 * nI p + nI b = nI (p * 4 + b) := by rw [ux_l_mul, nI_add, Nat.mul_comm]
  have ca : (nI (p * 4 + a)).toNatClampNeg = p * 4 + a := ux_c (by omega)
  have cb : (nI (p * 4 + b)).toNatClampNeg = p * 4 + b := ux_c (by omega)
  have va : vp_in (nI (p * 4 + a)) 20 := vp_in_nI (by omega) (by decide)
  have vb : vp_in (nI (p * 4 + b)) 20 := vp_in_nI (by omega) (by decide)
  have g1 : ¬ sp p < 0 := by rw [h3]; exact nI_pos (by omega)
  have g2 : ¬ pn p - 1 < sp p := by
    obtain ⟨t, rfl⟩ : ∃ t, l = t + 1 := ⟨l - 1, by omega⟩
    rw [h3, h4, nI_pred]; exact nI_nlt (by omega) (by omega)
  unfold wpY_execute
  dsimp only
  rw [cl, e20, ux_c (n := p * 20 + s) (by omega)]
  refine nm_e ⟨iv, iv, ya_inT g1 g2 (br_f (by decide) ⟨iv, vp_in_nI (by omega) (by decide), nm_e (nm_r ho (nm_r ea (nm_e ?_)))⟩)⟩
  rw [e4, ca]
  refine ⟨va, nm_e (br_f (by decide) <| br_f (by decide) <| br_t (by decide) <| br_f (by decide) <| br_f (by decide) <| br_t (by decide) <| ?_)⟩
  unfold wY_execute_227
  rw [eb]
  refine br_f (by decide) <| br_f (by decide) <| br_f (by decide) <| br_f (by decide) <| br_f (by decide) <| br_t rfl (h _ (fun u hu => ?_))
  obtain ⟨ql, ex, pr, go, kd, le, wo, et, np, st, qp, sp, pn, pg, rg, ee, pc, fi, ow, po, pl, pw, qu, ou⟩ := u
  exact br_f (by decide) <| br_f (by decide) <| br_f (by decide) <| br_f (by decide) <| br_f (by decide) <| br_f (by decide) <| hu
theorem yj_19 {post : Int32 → SY → Prop} (H : ux_in sp pn pg p s l a b 19) (h : ∀ Q : SY → Prop, (∀ u, yk post p 19 u → Q u) → wpY_seek Q (ql, ex + 1, pr, 1, kd, le, wo, et, np, st, qp, sp, pn, pg, rg, ee, pc, fi, ow, po, pl, pw, qu, ou) (nI p) (nI a) (nI b)) : wpY_execute post (ql, ex, pr, go, kd, le, wo, et, np, st, qp, sp, pn, pg, rg, ee, pc, fi, ow, po, pl, pw, qu, ou) (nI p) := by
  obtain ⟨hp, hi, ho, ha, ea, hb, eb⟩ := H
  obtain ⟨h1, h2, h3, h4⟩ := id hi
  have cl : (nI p).toNatClampNeg = p := ux_c (by omega)
  have iv : vp_in (nI p) 5 := vp_in_nI hp (by decide)
  have e20 : 20 * nI p + sp p = nI (p * 20 + s) := by rw [h3, ux_l_mul, nI_add, Nat.mul_comm]
  have e4 : 4 * nI p + nI a = nI (p * 4 + a) := by rw [ux_l_mul, nI_add, Nat.mul_comm]
  have f4 : 4 * nI p + nI b = nI (p * 4 + b) := by rw [ux_l_mul, nI_add, Nat.mul_comm]
  have ca : (nI (p * 4 + a)).toNatClampNeg = p * 4 + a := ux_c (by omega)
  have cb : (nI (p * 4 + b)).toNatClampNeg = p * 4 + b := ux_c (by omega)
  have va : vp_in (nI (p * 4 + a)) 20 := vp_in_nI (by omega) (by decide)
  have vb : vp_in (nI (p * 4 + b)) 20 := vp_in_nI (by omega) (by decide)
  have g1 : ¬ sp p < 0 := by rw [h3]; exact nI_pos (by omega)
  have g2 : ¬ pn p - 1 < sp p := by
    obtain ⟨t, rfl⟩ : ∃ t, l = t + 1 := ⟨l - 1, by omega⟩
    rw [h3, h4, nI_pred]; exact nI_nlt (by omega) (by omega)
  unfold wpY_execute
  dsimp only
  rw [cl, e20, ux_c (n := p * 20 + s) (by omega)]
  refine nm_e ⟨iv, iv, ya_inT g1 g2 (br_f (by decide) ⟨iv, vp_in_nI (by omega) (by decide), nm_e (nm_r ho (nm_r ea (nm_e ?_)))⟩)⟩
  rw [e4, ca]
  refine ⟨va, nm_e (br_f (by decide) <| br_f (by decide) <| br_t (by decide) <| br_f (by decide) <| br_f (by decide) <| br_t (by decide) <| ?_)⟩
  unfold wY_execute_227
  rw [eb]
  refine br_f (by decide) <| br_f (by decide) <| br_f (by decide) <| br_f (by decide) <| br_f (by decide) <| br_f (by decide) <| br_t rfl (h _ (fun u hu => ?_))
  obtain ⟨ql, ex, pr, go, kd, le, wo, et, np, st, qp, sp, pn, pg, rg, ee, pc, fi, ow, po, pl, pw, qu, ou⟩ := u
  exact br_f (by decide) <| br_f (by decide) <| br_f (by decide) <| br_f (by decide) <| br_f (by decide) <| hu
theorem yj_20 {post : Int32 → SY → Prop} (H : ux_in sp pn pg p s l a b 20) (h : ∀ Q : SY → Prop, (∀ u, yk post p 20 u → Q u) → wpY_makeDirectory Q (ql, ex + 1, pr, 1, kd, le, wo, et, np, st, qp, sp, pn, pg, rg, ee, pc, fi, ow, po, pl, pw, qu, ou) (nI p) (nI a)) : wpY_execute post (ql, ex, pr, go, kd, le, wo, et, np, st, qp, sp, pn, pg, rg, ee, pc, fi, ow, po, pl, pw, qu, ou) (nI p) := by
  obtain ⟨hp, hi, ho, ha, ea, hb, eb⟩ := H
  obtain ⟨h1, h2, h3, h4⟩ := id hi
  have cl : (nI p).toNatClampNeg = p := ux_c (by omega)
  have iv : vp_in (nI p) 5 := vp_in_nI hp (by decide)
  have e20 : 20 * nI p + sp p = nI (p * 20 + s) := by rw [h3, ux_l_mul, nI_add, Nat.mul_comm]
  have e4 : 4 * nI p + nI a = nI (p * 4 + a) := by rw [ux_l_mul, nI_add, Nat.mul_comm]
  have f4 : 4 * nI p + nI b = nI (p * 4 + b) := by rw [ux_l_mul, nI_add, Nat.mul_comm]
  have ca : (nI (p * 4 + a)).toNatClampNeg = p * 4 + a := ux_c (by omega)
  have cb : (nI (p * 4 + b)).toNatClampNeg = p * 4 + b := ux_c (by omega)
  have va : vp_in (nI (p * 4 + a)) 20 := vp_in_nI (by omega) (by decide)
  have vb : vp_in (nI (p * 4 + b)) 20 := vp_in_nI (by omega) (by decide)
  have g1 : ¬ sp p < 0 := by rw [h3]; exact nI_pos (by omega)
  have g2 : ¬ pn p - 1 < sp p := by
    obtain ⟨t, rfl⟩ : ∃ t, l = t + 1 := ⟨l - 1, by omega⟩
    rw [h3, h4, nI_pred]; exact nI_nlt (by omega) (by omega)
  unfold wpY_execute
  dsimp only
  rw [cl, e20, ux_c (n := p * 20 + s) (by omega)]
  refine nm_e ⟨iv, iv, ya_inT g1 g2 (br_f (by decide) ⟨iv, vp_in_nI (by omega) (by decide), nm_e (nm_r ho (nm_r ea (nm_e ?_)))⟩)⟩
  rw [e4, ca]
  refine ⟨va, nm_e (br_f (by decide) <| br_f (by decide) <| br_t (by decide) <| br_f (by decide) <| br_f (by decide) <| br_t (by decide) <| ?_)⟩
  unfold wY_execute_227
  rw [eb]
  refine br_f (by decide) <| br_f (by decide) <| br_f (by decide) <| br_f (by decide) <| br_f (by decide) <| br_f (by decide) <| br_f (by decide) <| br_t rfl (h _ (fun u hu => ?_))
  obtain ⟨ql, ex, pr, go, kd, le, wo, et, np, st, qp, sp, pn, pg, rg, ee, pc, fi, ow, po, pl, pw, qu, ou⟩ := u
  exact br_f (by decide) <| br_f (by decide) <| br_f (by decide) <| br_f (by decide) <| hu
theorem yj_21 {post : Int32 → SY → Prop} (H : ux_in sp pn pg p s l a b 21) (h : ∀ Q : SY → Prop, (∀ u, yk post p 21 u → Q u) → wpY_go Q (ql, ex + 1, pr, 1, kd, le, wo, et, np, st, qp, sp, pn, pg, rg, ee, pc, fi, ow, po, pl, pw, qu, ou) (nI p) (nI a)) : wpY_execute post (ql, ex, pr, go, kd, le, wo, et, np, st, qp, sp, pn, pg, rg, ee, pc, fi, ow, po, pl, pw, qu, ou) (nI p) := by
  obtain ⟨hp, hi, ho, ha, ea, hb, eb⟩ := H
  obtain ⟨h1, h2, h3, h4⟩ := id hi
  have cl : (nI p).toNatClampNeg = p := ux_c (by omega)
  have iv : vp_in (nI p) 5 := vp_in_nI hp (by decide)
  have e20 : 20 * nI p + sp p = nI (p * 20 + s) := by rw [h3, ux_l_mul, nI_add, Nat.mul_comm]
  have e4 : 4 * nI p + nI a = nI (p * 4 + a) := by rw [ux_l_mul, nI_add, Nat.mul_comm]
  have f4 : 4 * nI p + nI b = nI (p * 4 + b) := by rw [ux_l_mul, nI_add, Nat.mul_comm]
  have ca : (nI (p * 4 + a)).toNatClampNeg = p * 4 + a := ux_c (by omega)
  have cb : (nI (p * 4 + b)).toNatClampNeg = p * 4 + b := ux_c (by omega)
  have va : vp_in (nI (p * 4 + a)) 20 := vp_in_nI (by omega) (by decide)
  have vb : vp_in (nI (p * 4 + b)) 20 := vp_in_nI (by omega) (by decide)
  have g1 : ¬ sp p < 0 := by rw [h3]; exact nI_pos (by omega)
  have g2 : ¬ pn p - 1 < sp p := by
    obtain ⟨t, rfl⟩ : ∃ t, l = t + 1 := ⟨l - 1, by omega⟩
    rw [h3, h4, nI_pred]; exact nI_nlt (by omega) (by omega)
  unfold wpY_execute
  dsimp only
  rw [cl, e20, ux_c (n := p * 20 + s) (by omega)]
  refine nm_e ⟨iv, iv, ya_inT g1 g2 (br_f (by decide) ⟨iv, vp_in_nI (by omega) (by decide), nm_e (nm_r ho (nm_r ea (nm_e ?_)))⟩)⟩
  rw [e4, ca]
  refine ⟨va, nm_e (br_f (by decide) <| br_f (by decide) <| br_t (by decide) <| br_f (by decide) <| br_f (by decide) <| br_t (by decide) <| ?_)⟩
  unfold wY_execute_227
  rw [eb]
  refine br_f (by decide) <| br_f (by decide) <| br_f (by decide) <| br_f (by decide) <| br_f (by decide) <| br_f (by decide) <| br_f (by decide) <| br_f (by decide) <| br_t rfl (h _ (fun u hu => ?_))
  obtain ⟨ql, ex, pr, go, kd, le, wo, et, np, st, qp, sp, pn, pg, rg, ee, pc, fi, ow, po, pl, pw, qu, ou⟩ := u
  exact br_f (by decide) <| br_f (by decide) <| br_f (by decide) <| hu
theorem yj_22 {post : Int32 → SY → Prop} (H : ux_in sp pn pg p s l a b 22) (h : ∀ Q : SY → Prop, (∀ u, yk post p 22 u → Q u) → wpY_link Q (ql, ex + 1, pr, 1, kd, le, wo, et, np, st, qp, sp, pn, pg, rg, ee, pc, fi, ow, po, pl, pw, qu, ou) (nI p) (nI a) (nI b)) : wpY_execute post (ql, ex, pr, go, kd, le, wo, et, np, st, qp, sp, pn, pg, rg, ee, pc, fi, ow, po, pl, pw, qu, ou) (nI p) := by
  obtain ⟨hp, hi, ho, ha, ea, hb, eb⟩ := H
  obtain ⟨h1, h2, h3, h4⟩ := id hi
  have cl : (nI p).toNatClampNeg = p := ux_c (by omega)
  have iv : vp_in (nI p) 5 := vp_in_nI hp (by decide)
  have e20 : 20 * nI p + sp p = nI (p * 20 + s) := by rw [h3, ux_l_mul, nI_add, Nat.mul_comm]
  have e4 : 4 * nI p + nI a = nI (p * 4 + a) := by rw [ux_l_mul, nI_add, Nat.mul_comm]
  have f4 : 4 * nI p + nI b = nI (p * 4 + b) := by rw [ux_l_mul, nI_add, Nat.mul_comm]
  have ca : (nI (p * 4 + a)).toNatClampNeg = p * 4 + a := ux_c (by omega)
  have cb : (nI (p * 4 + b)).toNatClampNeg = p * 4 + b := ux_c (by omega)
  have va : vp_in (nI (p * 4 + a)) 20 := vp_in_nI (by omega) (by decide)
  have vb : vp_in (nI (p * 4 + b)) 20 := vp_in_nI (by omega) (by decide)
  have g1 : ¬ sp p < 0 := by rw [h3]; exact nI_pos (by omega)
  have g2 : ¬ pn p - 1 < sp p := by
    obtain ⟨t, rfl⟩ : ∃ t, l = t + 1 := ⟨l - 1, by omega⟩
    rw [h3, h4, nI_pred]; exact nI_nlt (by omega) (by omega)
  unfold wpY_execute
  dsimp only
  rw [cl, e20, ux_c (n := p * 20 + s) (by omega)]
  refine nm_e ⟨iv, iv, ya_inT g1 g2 (br_f (by decide) ⟨iv, vp_in_nI (by omega) (by decide), nm_e (nm_r ho (nm_r ea (nm_e ?_)))⟩)⟩
  rw [e4, ca]
  refine ⟨va, nm_e (br_f (by decide) <| br_f (by decide) <| br_t (by decide) <| br_f (by decide) <| br_f (by decide) <| br_t (by decide) <| ?_)⟩
  unfold wY_execute_227
  rw [eb]
  refine br_f (by decide) <| br_f (by decide) <| br_f (by decide) <| br_f (by decide) <| br_f (by decide) <| br_f (by decide) <| br_f (by decide) <| br_f (by decide) <| br_f (by decide) <| br_t rfl (h _ (fun u hu => ?_))
  obtain ⟨ql, ex, pr, go, kd, le, wo, et, np, st, qp, sp, pn, pg, rg, ee, pc, fi, ow, po, pl, pw, qu, ou⟩ := u
  exact br_f (by decide) <| br_f (by decide) <| hu
theorem yj_23 {post : Int32 → SY → Prop} (H : ux_in sp pn pg p s l a b 23) (h : ∀ Q : SY → Prop, (∀ u, yk post p 23 u → Q u) → wpY_remove Q (ql, ex + 1, pr, 1, kd, le, wo, et, np, st, qp, sp, pn, pg, rg, ee, pc, fi, ow, po, pl, pw, qu, ou) (nI p) (nI a)) : wpY_execute post (ql, ex, pr, go, kd, le, wo, et, np, st, qp, sp, pn, pg, rg, ee, pc, fi, ow, po, pl, pw, qu, ou) (nI p) := by
  obtain ⟨hp, hi, ho, ha, ea, hb, eb⟩ := H
  obtain ⟨h1, h2, h3, h4⟩ := id hi
  have cl : (nI p).toNatClampNeg = p := ux_c (by omega)
  have iv : vp_in (nI p) 5 := vp_in_nI hp (by decide)
  have e20 : 20 * nI p + sp p = nI (p * 20 + s) := by rw [h3, ux_l_mul, nI_add, Nat.mul_comm]
  have e4 : 4 * nI p + nI a = nI (p * 4 + a) := by rw [ux_l_mul, nI_add, Nat.mul_comm]
  have f4 : 4 * nI p + nI b = nI (p * 4 + b) := by rw [ux_l_mul, nI_add, Nat.mul_comm]
  have ca : (nI (p * 4 + a)).toNatClampNeg = p * 4 + a := ux_c (by omega)
  have cb : (nI (p * 4 + b)).toNatClampNeg = p * 4 + b := ux_c (by omega)
  have va : vp_in (nI (p * 4 + a)) 20 := vp_in_nI (by omega) (by decide)
  have vb : vp_in (nI (p * 4 + b)) 20 := vp_in_nI (by omega) (by decide)
  have g1 : ¬ sp p < 0 := by rw [h3]; exact nI_pos (by omega)
  have g2 : ¬ pn p - 1 < sp p := by
    obtain ⟨t, rfl⟩ : ∃ t, l = t + 1 := ⟨l - 1, by omega⟩
    rw [h3, h4, nI_pred]; exact nI_nlt (by omega) (by omega)
  unfold wpY_execute
  dsimp only
  rw [cl, e20, ux_c (n := p * 20 + s) (by omega)]
  refine nm_e ⟨iv, iv, ya_inT g1 g2 (br_f (by decide) ⟨iv, vp_in_nI (by omega) (by decide), nm_e (nm_r ho (nm_r ea (nm_e ?_)))⟩)⟩
  rw [e4, ca]
  refine ⟨va, nm_e (br_f (by decide) <| br_f (by decide) <| br_t (by decide) <| br_f (by decide) <| br_f (by decide) <| br_t (by decide) <| ?_)⟩
  unfold wY_execute_227
  rw [eb]
  refine br_f (by decide) <| br_f (by decide) <| br_f (by decide) <| br_f (by decide) <| br_f (by decide) <| br_f (by decide) <| br_f (by decide) <| br_f (by decide) <| br_f (by decide) <| br_f (by decide) <| br_t rfl (h _ (fun u hu => ?_))
  obtain ⟨ql, ex, pr, go, kd, le, wo, et, np, st, qp, sp, pn, pg, rg, ee, pc, fi, ow, po, pl, pw, qu, ou⟩ := u
  exact br_f (by decide) <| hu
theorem yj_28 {post : Int32 → SY → Prop} (H : ux_in sp pn pg p s l a b 28) (h : ∀ Q : SY → Prop, (∀ u, yk post p 28 u → Q u) → wpY_killOther Q (ql, ex + 1, pr, 1, kd, le, wo, et, np, st, qp, sp, pn, pg, rg, ee, pc, fi, ow, po, pl, pw, qu, ou) (nI p) (nI a)) : wpY_execute post (ql, ex, pr, go, kd, le, wo, et, np, st, qp, sp, pn, pg, rg, ee, pc, fi, ow, po, pl, pw, qu, ou) (nI p) := by
  obtain ⟨hp, hi, ho, ha, ea, hb, eb⟩ := H
  obtain ⟨h1, h2, h3, h4⟩ := id hi
  have cl : (nI p).toNatClampNeg = p := ux_c (by omega)
  have iv : vp_in (nI p) 5 := vp_in_nI hp (by decide)
  have e20 : 20 * nI p + sp p = nI (p * 20 + s) := by rw [h3, ux_l_mul, nI_add, Nat.mul_comm]
  have e4 : 4 * nI p + nI a = nI (p * 4 + a) := by rw [ux_l_mul, nI_add, Nat.mul_comm]
  have f4 : 4 * nI p + nI b = nI (p * 4 + b) := by rw [ux_l_mul, nI_add, Nat.mul_comm]
  have ca : (nI (p * 4 + a)).toNatClampNeg = p * 4 + a := ux_c (by omega)
  have cb : (nI (p * 4 + b)).toNatClampNeg = p * 4 + b := ux_c (by omega)
  have va : vp_in (nI (p * 4 + a)) 20 := vp_in_nI (by omega) (by decide)
  have vb : vp_in (nI (p * 4 + b)) 20 := vp_in_nI (by omega) (by decide)
  have g1 : ¬ sp p < 0 := by rw [h3]; exact nI_pos (by omega)
  have g2 : ¬ pn p - 1 < sp p := by
    obtain ⟨t, rfl⟩ : ∃ t, l = t + 1 := ⟨l - 1, by omega⟩
    rw [h3, h4, nI_pred]; exact nI_nlt (by omega) (by omega)
  unfold wpY_execute
  dsimp only
  rw [cl, e20, ux_c (n := p * 20 + s) (by omega)]
  refine nm_e ⟨iv, iv, ya_inT g1 g2 (br_f (by decide) ⟨iv, vp_in_nI (by omega) (by decide), nm_e (nm_r ho (nm_r ea (nm_e ?_)))⟩)⟩
  rw [e4, ca]
  refine ⟨va, nm_e (br_f (by decide) <| br_f (by decide) <| br_t (by decide) <| br_f (by decide) <| br_f (by decide) <| br_f (by decide) <| br_t rfl <| ?_)⟩
  unfold wY_execute_227
  rw [eb]
  refine br_f (by decide) <| br_f (by decide) <| br_f (by decide) <| br_f (by decide) <| br_f (by decide) <| br_f (by decide) <| br_f (by decide) <| br_f (by decide) <| br_f (by decide) <| br_f (by decide) <| br_f (by decide) <| br_t rfl (h _ (fun u hu => ?_))
  obtain ⟨ql, ex, pr, go, kd, le, wo, et, np, st, qp, sp, pn, pg, rg, ee, pc, fi, ow, po, pl, pw, qu, ou⟩ := u
  exact hu
theorem yj_1 {post : Int32 → SY → Prop} (H : ux_in sp pn pg p s l a b 1) (h : wY_execute_262 post (nI p) 1 ql (ex + 1) pr 1 kd le wo et np st qp sp pn pg (upd rg (p * 4 + a) ((pg (p * 20 + s) >>> ((9 : Int32) &&& 31)))) ee pc fi ow po pl pw qu ou) : wpY_execute post (ql, ex, pr, go, kd, le, wo, et, np, st, qp, sp, pn, pg, rg, ee, pc, fi, ow, po, pl, pw, qu, ou) (nI p) := by
  obtain ⟨hp, hi, ho, ha, ea, hb, eb⟩ := H
  obtain ⟨h1, h2, h3, h4⟩ := id hi
  have cl : (nI p).toNatClampNeg = p := ux_c (by omega)
  have iv : vp_in (nI p) 5 := vp_in_nI hp (by decide)
  have e20 : 20 * nI p + sp p = nI (p * 20 + s) := by rw [h3, ux_l_mul, nI_add, Nat.mul_comm]
  have e4 : 4 * nI p + nI a = nI (p * 4 + a) := by rw [ux_l_mul, nI_add, Nat.mul_comm]
  have f4 : 4 * nI p + nI b = nI (p * 4 + b) := by rw [ux_l_mul, nI_add, Nat.mul_comm]
  have ca : (nI (p * 4 + a)).toNatClampNeg = p * 4 + a := ux_c (by omega)
  have cb : (nI (p * 4 + b)).toNatClampNeg = p * 4 + b := ux_c (by omega)
  have va : vp_in (nI (p * 4 + a)) 20 := vp_in_nI (by omega) (by decide)
  have vb : vp_in (nI (p * 4 + b)) 20 := vp_in_nI (by omega) (by decide)
  have g1 : ¬ sp p < 0 := by rw [h3]; exact nI_pos (by omega)
  have g2 : ¬ pn p - 1 < sp p := by
    obtain ⟨t, rfl⟩ : ∃ t, l = t + 1 := ⟨l - 1, by omega⟩
    rw [h3, h4, nI_pred]; exact nI_nlt (by omega) (by omega)
  unfold wpY_execute
  dsimp only
  rw [cl, e20, ux_c (n := p * 20 + s) (by omega)]
  refine nm_e ⟨iv, iv, ya_inT g1 g2 (br_f (by decide) ⟨iv, vp_in_nI (by omega) (by decide), nm_e (nm_r ho (nm_r ea (nm_e ?_)))⟩)⟩
  rw [e4, ca]
  refine ⟨va, nm_e (br_f (by decide) <| br_t (by decide) <| br_f (by decide) <| br_t (by decide) <| br_f (by decide) <| ?_)⟩
  unfold wpY_simple
  dsimp only
  rw [eb, e4, f4, cb]
  refine nm_e ⟨va, ?_⟩
  rw [ca]
  refine nm_e ⟨vb, nm_e ?_⟩
  refine br_t rfl ⟨va, ?_⟩
  exact nm_e (br_f (by decide) <| br_f (by decide) <| br_f (by decide) <| br_f (by decide) <| br_f (by decide) <| br_f (by decide) <| br_f (by decide) <| br_f (by decide) <| br_f (by decide) <| br_f (by decide) <| h)
theorem yj_2 {post : Int32 → SY → Prop} (H : ux_in sp pn pg p s l a b 2) (h : wY_execute_262 post (nI p) 2 ql (ex + 1) pr 1 kd le wo et np st qp sp pn pg (upd rg (p * 4 + a) (rg (p * 4 + b))) ee pc fi ow po pl pw qu ou) : wpY_execute post (ql, ex, pr, go, kd, le, wo, et, np, st, qp, sp, pn, pg, rg, ee, pc, fi, ow, po, pl, pw, qu, ou) (nI p) := by
  obtain ⟨hp, hi, ho, ha, ea, hb, eb⟩ := H
  obtain ⟨h1, h2, h3, h4⟩ := id hi
  have cl : (nI p).toNatClampNeg = p := ux_c (by omega)
  have iv : vp_in (nI p) 5 := vp_in_nI hp (by decide)
  have e20 : 20 * nI p + sp p = nI (p * 20 + s) := by rw [h3, ux_l_mul, nI_add, Nat.mul_comm]
  have e4 : 4 * nI p + nI a = nI (p * 4 + a) := by rw [ux_l_mul, nI_add, Nat.mul_comm]
  have f4 : 4 * nI p + nI b = nI (p * 4 + b) := by rw [ux_l_mul, nI_add, Nat.mul_comm]
  have ca : (nI (p * 4 + a)).toNatClampNeg = p * 4 + a := ux_c (by omega)
  have cb : (nI (p * 4 + b)).toNatClampNeg = p * 4 + b := ux_c (by omega)
  have va : vp_in (nI (p * 4 + a)) 20 := vp_in_nI (by omega) (by decide)
  have vb : vp_in (nI (p * 4 + b)) 20 := vp_in_nI (by omega) (by decide)
  have g1 : ¬ sp p < 0 := by rw [h3]; exact nI_pos (by omega)
  have g2 : ¬ pn p - 1 < sp p := by
    obtain ⟨t, rfl⟩ : ∃ t, l = t + 1 := ⟨l - 1, by omega⟩
    rw [h3, h4, nI_pred]; exact nI_nlt (by omega) (by omega)
  unfold wpY_execute
  dsimp only
  rw [cl, e20, ux_c (n := p * 20 + s) (by omega)]
  refine nm_e ⟨iv, iv, ya_inT g1 g2 (br_f (by decide) ⟨iv, vp_in_nI (by omega) (by decide), nm_e (nm_r ho (nm_r ea (nm_e ?_)))⟩)⟩
  rw [e4, ca]
  refine ⟨va, nm_e (br_f (by decide) <| br_t (by decide) <| br_f (by decide) <| br_t (by decide) <| br_f (by decide) <| ?_)⟩
  unfold wpY_simple
  dsimp only
  rw [eb, e4, f4, cb]
  refine nm_e ⟨va, ?_⟩
  rw [ca]
  refine nm_e ⟨vb, nm_e ?_⟩
  refine br_f (by decide) <| br_t rfl ⟨va, ?_⟩
  rw [ca]
  exact nm_e (br_f (by decide) <| br_f (by decide) <| br_f (by decide) <| br_f (by decide) <| br_f (by decide) <| br_f (by decide) <| br_f (by decide) <| br_f (by decide) <| br_f (by decide) <| h)
theorem yj_3 {post : Int32 → SY → Prop} (H : ux_in sp pn pg p s l a b 3) (h : wY_execute_262 post (nI p) 3 ql (ex + 1) pr 1 kd le wo et np st qp sp pn pg (upd rg (p * 4 + a) (rg (p * 4 + a) + rg (p * 4 + b))) ee pc fi ow po pl pw qu ou) : wpY_execute post (ql, ex, pr, go, kd, le, wo, et, np, st, qp, sp, pn, pg, rg, ee, pc, fi, ow, po, pl, pw, qu, ou) (nI p) := by
  obtain ⟨hp, hi, ho, ha, ea, hb, eb⟩ := H
  obtain ⟨h1, h2, h3, h4⟩ := id hi
  have cl : (nI p).toNatClampNeg = p := ux_c (by omega)
  have iv : vp_in (nI p) 5 := vp_in_nI hp (by decide)
  have e20 : 20 * nI p + sp p = nI (p * 20 + s) := by rw [h3, ux_l_mul, nI_add, Nat.mul_comm]
  have e4 : 4 * nI p + nI a = nI (p * 4 + a) := by rw [ux_l_mul, nI_add, Nat.mul_comm]
  have f4 : 4 * nI p + nI b = nI (p * 4 + b) := by rw [ux_l_mul, nI_add, Nat.mul_comm]
  have ca : (nI (p * 4 + a)).toNatClampNeg = p * 4 + a := ux_c (by omega)
  have cb : (nI (p * 4 + b)).toNatClampNeg = p * 4 + b := ux_c (by omega)
  have va : vp_in (nI (p * 4 + a)) 20 := vp_in_nI (by omega) (by decide)
  have vb : vp_in (nI (p * 4 + b)) 20 := vp_in_nI (by omega) (by decide)
  have g1 : ¬ sp p < 0 := by rw [h3]; exact nI_pos (by omega)
  have g2 : ¬ pn p - 1 < sp p := by
    obtain ⟨t, rfl⟩ : ∃ t, l = t + 1 := ⟨l - 1, by omega⟩
    rw [h3, h4, nI_pred]; exact nI_nlt (by omega) (by omega)
  unfold wpY_execute
  dsimp only
  rw [cl, e20, ux_c (n := p * 20 + s) (by omega)]
  refine nm_e ⟨iv, iv, ya_inT g1 g2 (br_f (by decide) ⟨iv, vp_in_nI (by omega) (by decide), nm_e (nm_r ho (nm_r ea (nm_e ?_)))⟩)⟩
  rw [e4, ca]
  refine ⟨va, nm_e (br_f (by decide) <| br_t (by decide) <| br_f (by decide) <| br_t (by decide) <| br_f (by decide) <| ?_)⟩
  unfold wpY_simple
  dsimp only
  rw [eb, e4, f4, cb]
  refine nm_e ⟨va, ?_⟩
  rw [ca]
  refine nm_e ⟨vb, nm_e ?_⟩
  refine br_f (by decide) <| br_f (by decide) <| br_t rfl ⟨va, ?_⟩
  rw [ca]
  exact nm_e (br_f (by decide) <| br_f (by decide) <| br_f (by decide) <| br_f (by decide) <| br_f (by decide) <| br_f (by decide) <| br_f (by decide) <| br_f (by decide) <| h)
theorem yj_4 {post : Int32 → SY → Prop} (H : ux_in sp pn pg p s l a b 4) (h : wY_execute_262 post (nI p) 4 ql (ex + 1) pr 1 kd le wo et np st qp sp pn pg (upd rg (p * 4 + a) (rg (p * 4 + a) - rg (p * 4 + b))) ee pc fi ow po pl pw qu ou) : wpY_execute post (ql, ex, pr, go, kd, le, wo, et, np, st, qp, sp, pn, pg, rg, ee, pc, fi, ow, po, pl, pw, qu, ou) (nI p) := by
  obtain ⟨hp, hi, ho, ha, ea, hb, eb⟩ := H
  obtain ⟨h1, h2, h3, h4⟩ := id hi
  have cl : (nI p).toNatClampNeg = p := ux_c (by omega)
  have iv : vp_in (nI p) 5 := vp_in_nI hp (by decide)
  have e20 : 20 * nI p + sp p = nI (p * 20 + s) := by rw [h3, ux_l_mul, nI_add, Nat.mul_comm]
  have e4 : 4 * nI p + nI a = nI (p * 4 + a) := by rw [ux_l_mul, nI_add, Nat.mul_comm]
  have f4 : 4 * nI p + nI b = nI (p * 4 + b) := by rw [ux_l_mul, nI_add, Nat.mul_comm]
  have ca : (nI (p * 4 + a)).toNatClampNeg = p * 4 + a := ux_c (by omega)
  have cb : (nI (p * 4 + b)).toNatClampNeg = p * 4 + b := ux_c (by omega)
  have va : vp_in (nI (p * 4 + a)) 20 := vp_in_nI (by omega) (by decide)
  have vb : vp_in (nI (p * 4 + b)) 20 := vp_in_nI (by omega) (by decide)
  have g1 : ¬ sp p < 0 := by rw [h3]; exact nI_pos (by omega)
  have g2 : ¬ pn p - 1 < sp p := by
    obtain ⟨t, rfl⟩ : ∃ t, l = t + 1 := ⟨l - 1, by omega⟩
    rw [h3, h4, nI_pred]; exact nI_nlt (by omega) (by omega)
  unfold wpY_execute
  dsimp only
  rw [cl, e20, ux_c (n := p * 20 + s) (by omega)]
  refine nm_e ⟨iv, iv, ya_inT g1 g2 (br_f (by decide) ⟨iv, vp_in_nI (by omega) (by decide), nm_e (nm_r ho (nm_r ea (nm_e ?_)))⟩)⟩
  rw [e4, ca]
  refine ⟨va, nm_e (br_f (by decide) <| br_t (by decide) <| br_f (by decide) <| br_t (by decide) <| br_f (by decide) <| ?_)⟩
  unfold wpY_simple
  dsimp only
  rw [eb, e4, f4, cb]
  refine nm_e ⟨va, ?_⟩
  rw [ca]
  refine nm_e ⟨vb, nm_e ?_⟩
  refine br_f (by decide) <| br_f (by decide) <| br_f (by decide) <| br_t rfl ⟨va, ?_⟩
  rw [ca]
  exact nm_e (br_f (by decide) <| br_f (by decide) <| br_f (by decide) <| br_f (by decide) <| br_f (by decide) <| br_f (by decide) <| br_f (by decide) <| h)
theorem yj_5 {post : Int32 → SY → Prop} (H : ux_in sp pn pg p s l a b 5) (h : wY_execute_262 post (nI p) 5 ql (ex + 1) pr 1 kd le wo et np st qp sp pn pg (upd rg (p * 4 + a) (rg (p * 4 + a) + (pg (p * 20 + s) >>> ((9 : Int32) &&& 31)))) ee pc fi ow po pl pw qu ou) : wpY_execute post (ql, ex, pr, go, kd, le, wo, et, np, st, qp, sp, pn, pg, rg, ee, pc, fi, ow, po, pl, pw, qu, ou) (nI p) := by
  obtain ⟨hp, hi, ho, ha, ea, hb, eb⟩ := H
  obtain ⟨h1, h2, h3, h4⟩ := id hi
  have cl : (nI p).toNatClampNeg = p := ux_c (by omega)
  have iv : vp_in (nI p) 5 := vp_in_nI hp (by decide)
  have e20 : 20 * nI p + sp p = nI (p * 20 + s) := by rw [h3, ux_l_mul, nI_add, Nat.mul_comm]
  have e4 : 4 * nI p + nI a = nI (p * 4 + a) := by rw [ux_l_mul, nI_add, Nat.mul_comm]
  have f4 : 4 * nI p + nI b = nI (p * 4 + b) := by rw [ux_l_mul, nI_add, Nat.mul_comm]
  have ca : (nI (p * 4 + a)).toNatClampNeg = p * 4 + a := ux_c (by omega)
  have cb : (nI (p * 4 + b)).toNatClampNeg = p * 4 + b := ux_c (by omega)
  have va : vp_in (nI (p * 4 + a)) 20 := vp_in_nI (by omega) (by decide)
  have vb : vp_in (nI (p * 4 + b)) 20 := vp_in_nI (by omega) (by decide)
  have g1 : ¬ sp p < 0 := by rw [h3]; exact nI_pos (by omega)
  have g2 : ¬ pn p - 1 < sp p := by
    obtain ⟨t, rfl⟩ : ∃ t, l = t + 1 := ⟨l - 1, by omega⟩
    rw [h3, h4, nI_pred]; exact nI_nlt (by omega) (by omega)
  unfold wpY_execute
  dsimp only
  rw [cl, e20, ux_c (n := p * 20 + s) (by omega)]
  refine nm_e ⟨iv, iv, ya_inT g1 g2 (br_f (by decide) ⟨iv, vp_in_nI (by omega) (by decide), nm_e (nm_r ho (nm_r ea (nm_e ?_)))⟩)⟩
  rw [e4, ca]
  refine ⟨va, nm_e (br_f (by decide) <| br_t (by decide) <| br_f (by decide) <| br_t (by decide) <| br_f (by decide) <| ?_)⟩
  unfold wpY_simple
  dsimp only
  rw [eb, e4, f4, cb]
  refine nm_e ⟨va, ?_⟩
  rw [ca]
  refine nm_e ⟨vb, nm_e ?_⟩
  refine br_f (by decide) <| br_f (by decide) <| br_f (by decide) <| br_f (by decide) <| br_t rfl ⟨va, ?_⟩
  rw [ca]
  exact nm_e (br_f (by decide) <| br_f (by decide) <| br_f (by decide) <| br_f (by decide) <| br_f (by decide) <| br_f (by decide) <| h)
theorem yj_26 {post : Int32 → SY → Prop} (H : ux_in sp pn pg p s l a b 26) (h : wY_execute_262 post (nI p) 26 ql (ex + 1) pr 1 kd le wo et np st qp sp pn pg (upd rg (p * 4 + a) (nI p)) ee pc fi ow po pl pw qu ou) : wpY_execute post (ql, ex, pr, go, kd, le, wo, et, np, st, qp, sp, pn, pg, rg, ee, pc, fi, ow, po, pl, pw, qu, ou) (nI p) := by
  obtain ⟨hp, hi, ho, ha, ea, hb, eb⟩ := H
  obtain ⟨h1, h2, h3, h4⟩ := id hi
  have cl : (nI p).toNatClampNeg = p := ux_c (by omega)
  have iv : vp_in (nI p) 5 := vp_in_nI hp (by decide)
  have e20 : 20 * nI p + sp p = nI (p * 20 + s) := by rw [h3, ux_l_mul, nI_add, Nat.mul_comm]
  have e4 : 4 * nI p + nI a = nI (p * 4 + a) := by rw [ux_l_mul, nI_add, Nat.mul_comm]
  have f4 : 4 * nI p + nI b = nI (p * 4 + b) := by rw [ux_l_mul, nI_add, Nat.mul_comm]
  have ca : (nI (p * 4 + a)).toNatClampNeg = p * 4 + a := ux_c (by omega)
  have cb : (nI (p * 4 + b)).toNatClampNeg = p * 4 + b := ux_c (by omega)
  have va : vp_in (nI (p * 4 + a)) 20 := vp_in_nI (by omega) (by decide)
  have vb : vp_in (nI (p * 4 + b)) 20 := vp_in_nI (by omega) (by decide)
  have g1 : ¬ sp p < 0 := by rw [h3]; exact nI_pos (by omega)
  have g2 : ¬ pn p - 1 < sp p := by
    obtain ⟨t, rfl⟩ : ∃ t, l = t + 1 := ⟨l - 1, by omega⟩
    rw [h3, h4, nI_pred]; exact nI_nlt (by omega) (by omega)
  unfold wpY_execute
  dsimp only
  rw [cl, e20, ux_c (n := p * 20 + s) (by omega)]
  refine nm_e ⟨iv, iv, ya_inT g1 g2 (br_f (by decide) ⟨iv, vp_in_nI (by omega) (by decide), nm_e (nm_r ho (nm_r ea (nm_e ?_)))⟩)⟩
  rw [e4, ca]
  refine ⟨va, nm_e (br_f (by decide) <| br_f (by decide) <| br_t (by decide) <| br_f (by decide) <| br_f (by decide) <| br_f (by decide) <| br_f (by decide) <| ?_)⟩
  unfold wpY_simple
  dsimp only
  rw [eb, e4, f4, cb]
  refine nm_e ⟨va, ?_⟩
  rw [ca]
  refine nm_e ⟨vb, nm_e ?_⟩
  refine br_f (by decide) <| br_f (by decide) <| br_f (by decide) <| br_f (by decide) <| br_f (by decide) <| br_f (by decide) <| br_f (by decide) <| br_f (by decide) <| br_f (by decide) <| br_t rfl ⟨va, ?_⟩
  rw [ca]
  exact nm_e (br_f (by decide) <| h)
theorem yj_6 {post : Int32 → SY → Prop} (H : ux_in sp pn pg p s l a b 6) (h : wY_execute_262 post (nI p) 6 ql (ex + 1) pr 1 kd le wo et np st qp sp pn pg (upd rg (p * 4 + a) (if rg (p * 4 + b) ≤ rg (p * 4 + a) then 0 else 1)) ee pc fi ow po pl pw qu ou) : wpY_execute post (ql, ex, pr, go, kd, le, wo, et, np, st, qp, sp, pn, pg, rg, ee, pc, fi, ow, po, pl, pw, qu, ou) (nI p) := by
  obtain ⟨hp, hi, ho, ha, ea, hb, eb⟩ := H
  obtain ⟨h1, h2, h3, h4⟩ := id hi
  have cl : (nI p).toNatClampNeg = p := ux_c (by omega)
  have iv : vp_in (nI p) 5 := vp_in_nI hp (by decide)
  have e20 : 20 * nI p + sp p = nI (p * 20 + s) := by rw [h3, ux_l_mul, nI_add, Nat.mul_comm]
  have e4 : 4 * nI p + nI a = nI (p * 4 + a) := by rw [ux_l_mul, nI_add, Nat.mul_comm]
  have f4 : 4 * nI p + nI b = nI (p * 4 + b) := by rw [ux_l_mul, nI_add, Nat.mul_comm]
  have ca : (nI (p * 4 + a)).toNatClampNeg = p * 4 + a := ux_c (by omega)
  have cb : (nI (p * 4 + b)).toNatClampNeg = p * 4 + b := ux_c (by omega)
  have va : vp_in (nI (p * 4 + a)) 20 := vp_in_nI (by omega) (by decide)
  have vb : vp_in (nI (p * 4 + b)) 20 := vp_in_nI (by omega) (by decide)
  have g1 : ¬ sp p < 0 := by rw [h3]; exact nI_pos (by omega)
  have g2 : ¬ pn p - 1 < sp p := by
    obtain ⟨t, rfl⟩ : ∃ t, l = t + 1 := ⟨l - 1, by omega⟩
    rw [h3, h4, nI_pred]; exact nI_nlt (by omega) (by omega)
  unfold wpY_execute
  dsimp only
  rw [cl, e20, ux_c (n := p * 20 + s) (by omega)]
  refine nm_e ⟨iv, iv, ya_inT g1 g2 (br_f (by decide) ⟨iv, vp_in_nI (by omega) (by decide), nm_e (nm_r ho (nm_r ea (nm_e ?_)))⟩)⟩
  rw [e4, ca]
  refine ⟨va, nm_e (br_f (by decide) <| br_t (by decide) <| br_f (by decide) <| br_t (by decide) <| br_f (by decide) <| ?_)⟩
  unfold wpY_simple
  dsimp only
  rw [eb, e4, f4, cb]
  refine nm_e ⟨va, ?_⟩
  rw [ca]
  refine nm_e ⟨vb, nm_e ?_⟩
  refine br_f (by decide) <| br_f (by decide) <| br_f (by decide) <| br_f (by decide) <| br_f (by decide) <| br_t rfl ?_
  by_cases hc : rg (p * 4 + b) ≤ rg (p * 4 + a)
  · rw [if_pos hc] at h
    refine br_t hc ⟨va, ?_⟩
    rw [ca]
    exact nm_e (br_f (by decide) <| br_f (by decide) <| br_f (by decide) <| br_f (by decide) <| br_f (by decide) <| h)
  · rw [if_neg hc] at h
    refine br_f hc ⟨va, ?_⟩
    rw [ca]
    exact nm_e (br_f (by decide) <| br_f (by decide) <| br_f (by decide) <| br_f (by decide) <| br_f (by decide) <| h)
theorem yj_25 {post : Int32 → SY → Prop} (H : ux_in sp pn pg p s l a b 25) (h : wY_execute_262 post (nI p) 25 ql (ex + 1) pr 1 kd le wo et np st qp sp pn pg rg ee pc fi ow po pl pw qu ou) : wpY_execute post (ql, ex, pr, go, kd, le, wo, et, np, st, qp, sp, pn, pg, rg, ee, pc, fi, ow, po, pl, pw, qu, ou) (nI p) := by
  obtain ⟨hp, hi, ho, ha, ea, hb, eb⟩ := H
  obtain ⟨h1, h2, h3, h4⟩ := id hi
  have cl : (nI p).toNatClampNeg = p := ux_c (by omega)
  have iv : vp_in (nI p) 5 := vp_in_nI hp (by decide)
  have e20 : 20 * nI p + sp p = nI (p * 20 + s) := by rw [h3, ux_l_mul, nI_add, Nat.mul_comm]
  have e4 : 4 * nI p + nI a = nI (p * 4 + a) := by rw [ux_l_mul, nI_add, Nat.mul_comm]
  have f4 : 4 * nI p + nI b = nI (p * 4 + b) := by rw [ux_l_mul, nI_add, Nat.mul_comm]
  have ca : (nI (p * 4 + a)).toNatClampNeg = p * 4 + a := ux_c (by omega)
  have cb : (nI (p * 4 + b)).toNatClampNeg = p * 4 + b := ux_c (by omega)
  have va : vp_in (nI (p * 4 + a)) 20 := vp_in_nI (by omega) (by decide)
  have vb : vp_in (nI (p * 4 + b)) 20 := vp_in_nI (by omega) (by decide)
  have g1 : ¬ sp p < 0 := by rw [h3]; exact nI_pos (by omega)
  have g2 : ¬ pn p - 1 < sp p := by
    obtain ⟨t, rfl⟩ : ∃ t, l = t + 1 := ⟨l - 1, by omega⟩
    rw [h3, h4, nI_pred]; exact nI_nlt (by omega) (by omega)
  unfold wpY_execute
  dsimp only
  rw [cl, e20, ux_c (n := p * 20 + s) (by omega)]
  refine nm_e ⟨iv, iv, ya_inT g1 g2 (br_f (by decide) ⟨iv, vp_in_nI (by omega) (by decide), nm_e (nm_r ho (nm_r ea (nm_e ?_)))⟩)⟩
  rw [e4, ca]
  refine ⟨va, nm_e (br_f (by decide) <| br_f (by decide) <| br_t (by decide) <| br_f (by decide) <| br_f (by decide) <| br_f (by decide) <| br_f (by decide) <| ?_)⟩
  unfold wpY_simple
  dsimp only
  rw [eb, e4, f4, cb]
  refine nm_e ⟨va, ?_⟩
  rw [ca]
  refine nm_e ⟨vb, nm_e ?_⟩
  exact br_f (by decide) <| br_f (by decide) <| br_f (by decide) <| br_f (by decide) <| br_f (by decide) <| br_f (by decide) <| br_f (by decide) <| br_f (by decide) <| br_f (by decide) <| br_f (by decide) <| br_f (by decide) <| h
theorem yj_29 {post : Int32 → SY → Prop} (H : ux_in sp pn pg p s l a b 29) (h : wY_execute_262 post (nI p) 29 ql (ex + 1) pr 1 kd le wo et np st qp sp pn pg rg ee pc fi ow po pl pw qu ou) : wpY_execute post (ql, ex, pr, go, kd, le, wo, et, np, st, qp, sp, pn, pg, rg, ee, pc, fi, ow, po, pl, pw, qu, ou) (nI p) := by
  obtain ⟨hp, hi, ho, ha, ea, hb, eb⟩ := H
  obtain ⟨h1, h2, h3, h4⟩ := id hi
  have cl : (nI p).toNatClampNeg = p := ux_c (by omega)
  have iv : vp_in (nI p) 5 := vp_in_nI hp (by decide)
  have e20 : 20 * nI p + sp p = nI (p * 20 + s) := by rw [h3, ux_l_mul, nI_add, Nat.mul_comm]
  have e4 : 4 * nI p + nI a = nI (p * 4 + a) := by rw [ux_l_mul, nI_add, Nat.mul_comm]
  have f4 : 4 * nI p + nI b = nI (p * 4 + b) := by rw [ux_l_mul, nI_add, Nat.mul_comm]
  have ca : (nI (p * 4 + a)).toNatClampNeg = p * 4 + a := ux_c (by omega)
  have cb : (nI (p * 4 + b)).toNatClampNeg = p * 4 + b := ux_c (by omega)
  have va : vp_in (nI (p * 4 + a)) 20 := vp_in_nI (by omega) (by decide)
  have vb : vp_in (nI (p * 4 + b)) 20 := vp_in_nI (by omega) (by decide)
  have g1 : ¬ sp p < 0 := by rw [h3]; exact nI_pos (by omega)
  have g2 : ¬ pn p - 1 < sp p := by
    obtain ⟨t, rfl⟩ : ∃ t, l = t + 1 := ⟨l - 1, by omega⟩
    rw [h3, h4, nI_pred]; exact nI_nlt (by omega) (by omega)
  unfold wpY_execute
  dsimp only
  rw [cl, e20, ux_c (n := p * 20 + s) (by omega)]
  refine nm_e ⟨iv, iv, ya_inT g1 g2 (br_f (by decide) ⟨iv, vp_in_nI (by omega) (by decide), nm_e (nm_r ho (nm_r ea (nm_e ?_)))⟩)⟩
  rw [e4, ca]
  refine ⟨va, nm_e (br_f (by decide) <| br_f (by decide) <| br_t (by decide) <| br_f (by decide) <| br_f (by decide) <| br_f (by decide) <| br_f (by decide) <| ?_)⟩
  unfold wpY_simple
  dsimp only
  rw [eb, e4, f4, cb]
  refine nm_e ⟨va, ?_⟩
  rw [ca]
  refine nm_e ⟨vb, nm_e ?_⟩
  exact br_f (by decide) <| br_f (by decide) <| br_f (by decide) <| br_f (by decide) <| br_f (by decide) <| br_f (by decide) <| br_f (by decide) <| br_f (by decide) <| br_f (by decide) <| br_f (by decide) <| br_f (by decide) <| h
theorem yj_30 {post : Int32 → SY → Prop} (H : ux_in sp pn pg p s l a b 30) (h : wY_execute_262 post (nI p) 30 ql (ex + 1) pr 1 kd le wo et np st qp sp pn pg rg ee pc fi ow po pl pw qu ou) : wpY_execute post (ql, ex, pr, go, kd, le, wo, et, np, st, qp, sp, pn, pg, rg, ee, pc, fi, ow, po, pl, pw, qu, ou) (nI p) := by
  obtain ⟨hp, hi, ho, ha, ea, hb, eb⟩ := H
  obtain ⟨h1, h2, h3, h4⟩ := id hi
  have cl : (nI p).toNatClampNeg = p := ux_c (by omega)
  have iv : vp_in (nI p) 5 := vp_in_nI hp (by decide)
  have e20 : 20 * nI p + sp p = nI (p * 20 + s) := by rw [h3, ux_l_mul, nI_add, Nat.mul_comm]
  have e4 : 4 * nI p + nI a = nI (p * 4 + a) := by rw [ux_l_mul, nI_add, Nat.mul_comm]
  have f4 : 4 * nI p + nI b = nI (p * 4 + b) := by rw [ux_l_mul, nI_add, Nat.mul_comm]
  have ca : (nI (p * 4 + a)).toNatClampNeg = p * 4 + a := ux_c (by omega)
  have cb : (nI (p * 4 + b)).toNatClampNeg = p * 4 + b := ux_c (by omega)
  have va : vp_in (nI (p * 4 + a)) 20 := vp_in_nI (by omega) (by decide)
  have vb : vp_in (nI (p * 4 + b)) 20 := vp_in_nI (by omega) (by decide)
  have g1 : ¬ sp p < 0 := by rw [h3]; exact nI_pos (by omega)
  have g2 : ¬ pn p - 1 < sp p := by
    obtain ⟨t, rfl⟩ : ∃ t, l = t + 1 := ⟨l - 1, by omega⟩
    rw [h3, h4, nI_pred]; exact nI_nlt (by omega) (by omega)
  unfold wpY_execute
  dsimp only
  rw [cl, e20, ux_c (n := p * 20 + s) (by omega)]
  refine nm_e ⟨iv, iv, ya_inT g1 g2 (br_f (by decide) ⟨iv, vp_in_nI (by omega) (by decide), nm_e (nm_r ho (nm_r ea (nm_e ?_)))⟩)⟩
  rw [e4, ca]
  refine ⟨va, nm_e (br_f (by decide) <| br_f (by decide) <| br_t (by decide) <| br_f (by decide) <| br_f (by decide) <| br_f (by decide) <| br_f (by decide) <| ?_)⟩
  unfold wpY_simple
  dsimp only
  rw [eb, e4, f4, cb]
  refine nm_e ⟨va, ?_⟩
  rw [ca]
  refine nm_e ⟨vb, nm_e ?_⟩
  exact br_f (by decide) <| br_f (by decide) <| br_f (by decide) <| br_f (by decide) <| br_f (by decide) <| br_f (by decide) <| br_f (by decide) <| br_f (by decide) <| br_f (by decide) <| br_f (by decide) <| br_f (by decide) <| h
theorem yj_31 {post : Int32 → SY → Prop} (H : ux_in sp pn pg p s l a b 31) (h : wY_execute_262 post (nI p) 31 ql (ex + 1) pr 1 kd le wo et np st qp sp pn pg rg ee pc fi ow po pl pw qu ou) : wpY_execute post (ql, ex, pr, go, kd, le, wo, et, np, st, qp, sp, pn, pg, rg, ee, pc, fi, ow, po, pl, pw, qu, ou) (nI p) := by
  obtain ⟨hp, hi, ho, ha, ea, hb, eb⟩ := H
  obtain ⟨h1, h2, h3, h4⟩ := id hi
  have cl : (nI p).toNatClampNeg = p := ux_c (by omega)
  have iv : vp_in (nI p) 5 := vp_in_nI hp (by decide)
  have e20 : 20 * nI p + sp p = nI (p * 20 + s) := by rw [h3, ux_l_mul, nI_add, Nat.mul_comm]
  have e4 : 4 * nI p + nI a = nI (p * 4 + a) := by rw [ux_l_mul, nI_add, Nat.mul_comm]
  have f4 : 4 * nI p + nI b = nI (p * 4 + b) := by rw [ux_l_mul, nI_add, Nat.mul_comm]
  have ca : (nI (p * 4 + a)).toNatClampNeg = p * 4 + a := ux_c (by omega)
  have cb : (nI (p * 4 + b)).toNatClampNeg = p * 4 + b := ux_c (by omega)
  have va : vp_in (nI (p * 4 + a)) 20 := vp_in_nI (by omega) (by decide)
  have vb : vp_in (nI (p * 4 + b)) 20 := vp_in_nI (by omega) (by decide)
  have g1 : ¬ sp p < 0 := by rw [h3]; exact nI_pos (by omega)
  have g2 : ¬ pn p - 1 < sp p := by
    obtain ⟨t, rfl⟩ : ∃ t, l = t + 1 := ⟨l - 1, by omega⟩
    rw [h3, h4, nI_pred]; exact nI_nlt (by omega) (by omega)
  unfold wpY_execute
  dsimp only
  rw [cl, e20, ux_c (n := p * 20 + s) (by omega)]
  refine nm_e ⟨iv, iv, ya_inT g1 g2 (br_f (by decide) ⟨iv, vp_in_nI (by omega) (by decide), nm_e (nm_r ho (nm_r ea (nm_e ?_)))⟩)⟩
  rw [e4, ca]
  refine ⟨va, nm_e (br_f (by decide) <| br_f (by decide) <| br_t (by decide) <| br_f (by decide) <| br_f (by decide) <| br_f (by decide) <| br_f (by decide) <| ?_)⟩
  unfold wpY_simple
  dsimp only
  rw [eb, e4, f4, cb]
  refine nm_e ⟨va, ?_⟩
  rw [ca]
  refine nm_e ⟨vb, nm_e ?_⟩
  exact br_f (by decide) <| br_f (by decide) <| br_f (by decide) <| br_f (by decide) <| br_f (by decide) <| br_f (by decide) <| br_f (by decide) <| br_f (by decide) <| br_f (by decide) <| br_f (by decide) <| br_f (by decide) <| h
theorem yj_10 {post : Int32 → SY → Prop} (H : ux_in sp pn pg p s l a b 10) (h : ∀ Q : Int32 → SY → Prop, (∀ u, yk post p 10 (match u with | (ql, ex, pr, go, kd, le, wo, et, np, st, qp, sp, pn, pg, rg, ee, pc, fi, ow, po, pl, pw, qu, ou) => (ql, ex, pr, go, kd, le, wo, et, np, st, qp, sp, pn, pg, upd rg (p * 4 + a) (-2), ee, pc, fi, ow, po, pl, pw, qu, ou)) → Q (-2) u) → (∀ (c : Nat) u, c < 5 → yk post p 10 (match u with | (ql, ex, pr, go, kd, le, wo, et, np, st, qp, sp, pn, pg, rg, ee, pc, fi, ow, po, pl, pw, qu, ou) => (ql, ex, pr, go, kd, le, wo, et, np, st, qp, sp, pn, pg, upd (upd rg (p * 4 + a) (nI c)) (c * 4 + a) (-1), ee, pc, fi, ow, po, pl, pw, qu, ou)) → Q (nI c) u) → wpY_fork Q (ql, ex + 1, pr, 1, kd, le, wo, et, np, st, qp, sp, pn, pg, rg, ee, pc, fi, ow, po, pl, pw, qu, ou) (nI p)) : wpY_execute post (ql, ex, pr, go, kd, le, wo, et, np, st, qp, sp, pn, pg, rg, ee, pc, fi, ow, po, pl, pw, qu, ou) (nI p) := by
  obtain ⟨hp, hi, ho, ha, ea, hb, eb⟩ := H
  obtain ⟨h1, h2, h3, h4⟩ := id hi
  have cl : (nI p).toNatClampNeg = p := ux_c (by omega)
  have iv : vp_in (nI p) 5 := vp_in_nI hp (by decide)
  have e20 : 20 * nI p + sp p = nI (p * 20 + s) := by rw [h3, ux_l_mul, nI_add, Nat.mul_comm]
  have e4 : 4 * nI p + nI a = nI (p * 4 + a) := by rw [ux_l_mul, nI_add, Nat.mul_comm]
  have f4 : 4 * nI p + nI b = nI (p * 4 + b) := by rw [ux_l_mul, nI_add, Nat.mul_comm]
  have ca : (nI (p * 4 + a)).toNatClampNeg = p * 4 + a := ux_c (by omega)
  have cb : (nI (p * 4 + b)).toNatClampNeg = p * 4 + b := ux_c (by omega)
  have va : vp_in (nI (p * 4 + a)) 20 := vp_in_nI (by omega) (by decide)
  have vb : vp_in (nI (p * 4 + b)) 20 := vp_in_nI (by omega) (by decide)
  have g1 : ¬ sp p < 0 := by rw [h3]; exact nI_pos (by omega)
  have g2 : ¬ pn p - 1 < sp p := by
    obtain ⟨t, rfl⟩ : ∃ t, l = t + 1 := ⟨l - 1, by omega⟩
    rw [h3, h4, nI_pred]; exact nI_nlt (by omega) (by omega)
  unfold wpY_execute
  dsimp only
  rw [cl, e20, ux_c (n := p * 20 + s) (by omega)]
  refine nm_e ⟨iv, iv, ya_inT g1 g2 (br_f (by decide) ⟨iv, vp_in_nI (by omega) (by decide), nm_e (nm_r ho (nm_r ea (nm_e ?_)))⟩)⟩
  rw [e4, ca]
  refine ⟨va, nm_e (br_f (by decide) <| br_f (by decide) <| br_t (by decide) <| br_f (by decide) <| br_t (by decide) <| br_f (by decide) <| ?_)⟩
  unfold wpY_simple
  dsimp only
  rw [eb, e4, f4, cb]
  refine nm_e ⟨va, ?_⟩
  rw [ca]
  refine nm_e ⟨vb, nm_e ?_⟩
  refine br_f (by decide) <| br_f (by decide) <| br_f (by decide) <| br_f (by decide) <| br_f (by decide) <| br_f (by decide) <| br_t rfl (h _ (fun u hu => ?_) (fun c u hc hu => ?_))
  · obtain ⟨ql, ex, pr, go, kd, le, wo, et, np, st, qp, sp, pn, pg, rg, ee, pc, fi, ow, po, pl, pw, qu, ou⟩ := u
    refine ⟨va, ?_⟩
    rw [ca]
    exact nm_e (br_t (by decide) (br_f (by decide) <| br_f (by decide) <| br_f (by decide) <| br_f (by decide) <| hu))
  · obtain ⟨ql, ex, pr, go, kd, le, wo, et, np, st, qp, sp, pn, pg, rg, ee, pc, fi, ow, po, pl, pw, qu, ou⟩ := u
    have ec : 4 * nI c + nI a = nI (c * 4 + a) := by rw [ux_l_mul, nI_add, Nat.mul_comm]
    refine ⟨va, ?_⟩
    rw [ca, ec, ux_c (n := c * 4 + a) (by omega)]
    exact nm_e (br_f (nI_pos (by omega)) ⟨vp_in_nI (by omega) (by decide), nm_e (br_f (by decide) <| br_f (by decide) <| br_f (by decide) <| br_f (by decide) <| hu)⟩)
theorem yj_11 {post : Int32 → SY → Prop} (H : ux_in sp pn pg p s l a b 11) (h : ∀ Q : SY → Prop, (∀ u, yk post p 11 u → Q u) → wpY_await Q (ql, ex + 1, pr, 1, kd, le, wo, et, np, st, qp, sp, pn, pg, rg, ee, pc, fi, ow, po, pl, pw, qu, ou) (nI p) (nI a) (nI b)) : wpY_execute post (ql, ex, pr, go, kd, le, wo, et, np, st, qp, sp, pn, pg, rg, ee, pc, fi, ow, po, pl, pw, qu, ou) (nI p) := by
  obtain ⟨hp, hi, ho, ha, ea, hb, eb⟩ := H
  obtain ⟨h1, h2, h3, h4⟩ := id hi
  have cl : (nI p).toNatClampNeg = p := ux_c (by omega)
  have iv : vp_in (nI p) 5 := vp_in_nI hp (by decide)
  have e20 : 20 * nI p + sp p = nI (p * 20 + s) := by rw [h3, ux_l_mul, nI_add, Nat.mul_comm]
  have e4 : 4 * nI p + nI a = nI (p * 4 + a) := by rw [ux_l_mul, nI_add, Nat.mul_comm]
  have f4 : 4 * nI p + nI b = nI (p * 4 + b) := by rw [ux_l_mul, nI_add, Nat.mul_comm]
  have ca : (nI (p * 4 + a)).toNatClampNeg = p * 4 + a := ux_c (by omega)
  have cb : (nI (p * 4 + b)).toNatClampNeg = p * 4 + b := ux_c (by omega)
  have va : vp_in (nI (p * 4 + a)) 20 := vp_in_nI (by omega) (by decide)
  have vb : vp_in (nI (p * 4 + b)) 20 := vp_in_nI (by omega) (by decide)
  have g1 : ¬ sp p < 0 := by rw [h3]; exact nI_pos (by omega)
  have g2 : ¬ pn p - 1 < sp p := by
    obtain ⟨t, rfl⟩ : ∃ t, l = t + 1 := ⟨l - 1, by omega⟩
    rw [h3, h4, nI_pred]; exact nI_nlt (by omega) (by omega)
  unfold wpY_execute
  dsimp only
  rw [cl, e20, ux_c (n := p * 20 + s) (by omega)]
  refine nm_e ⟨iv, iv, ya_inT g1 g2 (br_f (by decide) ⟨iv, vp_in_nI (by omega) (by decide), nm_e (nm_r ho (nm_r ea (nm_e ?_)))⟩)⟩
  rw [e4, ca]
  refine ⟨va, nm_e (br_f (by decide) <| br_f (by decide) <| br_t (by decide) <| br_f (by decide) <| br_t (by decide) <| br_f (by decide) <| ?_)⟩
  unfold wpY_simple
  dsimp only
  rw [eb, e4, f4, cb]
  refine nm_e ⟨va, ?_⟩
  rw [ca]
  refine nm_e ⟨vb, nm_e ?_⟩
  refine br_f (by decide) <| br_f (by decide) <| br_f (by decide) <| br_f (by decide) <| br_f (by decide) <| br_f (by decide) <| br_f (by decide) <| br_t rfl (h _ (fun u hu => ?_))
  obtain ⟨ql, ex, pr, go, kd, le, wo, et, np, st, qp, sp, pn, pg, rg, ee, pc, fi, ow, po, pl, pw, qu, ou⟩ := u
  exact br_f (by decide) <| br_f (by decide) <| br_f (by decide) <| hu
theorem yj_24 {post : Int32 → SY → Prop} (H : ux_in sp pn pg p s l a b 24) (h : ∀ Q : SY → Prop, (∀ u, yk post p 24 u → Q u) → wpY_show Q (ql, ex + 1, pr, 1, kd, le, wo, et, np, st, qp, sp, pn, pg, rg, ee, pc, fi, ow, po, pl, pw, qu, ou) (rg (p * 4 + a))) : wpY_execute post (ql, ex, pr, go, kd, le, wo, et, np, st, qp, sp, pn, pg, rg, ee, pc, fi, ow, po, pl, pw, qu, ou) (nI p) := by
  obtain ⟨hp, hi, ho, ha, ea, hb, eb⟩ := H
  obtain ⟨h1, h2, h3, h4⟩ := id hi
  have cl : (nI p).toNatClampNeg = p := ux_c (by omega)
  have iv : vp_in (nI p) 5 := vp_in_nI hp (by decide)
  have e20 : 20 * nI p + sp p = nI (p * 20 + s) := by rw [h3, ux_l_mul, nI_add, Nat.mul_comm]
  have e4 : 4 * nI p + nI a = nI (p * 4 + a) := by rw [ux_l_mul, nI_add, Nat.mul_comm]
  have f4 : 4 * nI p + nI b = nI (p * 4 + b) := by rw [ux_l_mul, nI_add, Nat.mul_comm]
  have ca : (nI (p * 4 + a)).toNatClampNeg = p * 4 + a := ux_c (by omega)
  have cb : (nI (p * 4 + b)).toNatClampNeg = p * 4 + b := ux_c (by omega)
  have va : vp_in (nI (p * 4 + a)) 20 := vp_in_nI (by omega) (by decide)
  have vb : vp_in (nI (p * 4 + b)) 20 := vp_in_nI (by omega) (by decide)
  have g1 : ¬ sp p < 0 := by rw [h3]; exact nI_pos (by omega)
  have g2 : ¬ pn p - 1 < sp p := by
    obtain ⟨t, rfl⟩ : ∃ t, l = t + 1 := ⟨l - 1, by omega⟩
    rw [h3, h4, nI_pred]; exact nI_nlt (by omega) (by omega)
  unfold wpY_execute
  dsimp only
  rw [cl, e20, ux_c (n := p * 20 + s) (by omega)]
  refine nm_e ⟨iv, iv, ya_inT g1 g2 (br_f (by decide) ⟨iv, vp_in_nI (by omega) (by decide), nm_e (nm_r ho (nm_r ea (nm_e ?_)))⟩)⟩
  rw [e4, ca]
  refine ⟨va, nm_e (br_f (by decide) <| br_f (by decide) <| br_t (by decide) <| br_f (by decide) <| br_f (by decide) <| br_f (by decide) <| br_f (by decide) <| ?_)⟩
  unfold wpY_simple
  dsimp only
  rw [eb, e4, f4, cb]
  refine nm_e ⟨va, ?_⟩
  rw [ca]
  refine nm_e ⟨vb, nm_e ?_⟩
  refine br_f (by decide) <| br_f (by decide) <| br_f (by decide) <| br_f (by decide) <| br_f (by decide) <| br_f (by decide) <| br_f (by decide) <| br_f (by decide) <| br_t rfl (h _ (fun u hu => ?_))
  obtain ⟨ql, ex, pr, go, kd, le, wo, et, np, st, qp, sp, pn, pg, rg, ee, pc, fi, ow, po, pl, pw, qu, ou⟩ := u
  exact br_f (by decide) <| br_f (by decide) <| hu
theorem yj_27 {post : Int32 → SY → Prop} {d : Nat} (H : ux_in sp pn pg p s l a b 27) (hd : pc p = nI d) (h : ∀ Q : Int32 → Prop, (∀ r, (∀ Q2 : Int32 → Prop, (∀ r2, wY_execute_262 post (nI p) 27 ql (ex + 1) pr 1 kd le wo et np st qp sp pn pg (upd rg (p * 4 + a) r2) ee pc fi ow po pl pw qu ou → Q2 r2) → wpY_sizeOf Q2 (ql, ex + 1, pr, 1, kd, le, wo, et, np, st, qp, sp, pn, pg, rg, ee, pc, fi, ow, po, pl, pw, qu, ou) r) → Q r) → wpY_named Q (ql, ex + 1, pr, 1, kd, le, wo, et, np, st, qp, sp, pn, pg, rg, ee, pc, fi, ow, po, pl, pw, qu, ou) (nI d) (rg (p * 4 + a))) : wpY_execute post (ql, ex, pr, go, kd, le, wo, et, np, st, qp, sp, pn, pg, rg, ee, pc, fi, ow, po, pl, pw, qu, ou) (nI p) := by
  obtain ⟨hp, hi, ho, ha, ea, hb, eb⟩ := H
  obtain ⟨h1, h2, h3, h4⟩ := id hi
  have cl : (nI p).toNatClampNeg = p := ux_c (by omega)
  have iv : vp_in (nI p) 5 := vp_in_nI hp (by decide)
  have e20 : 20 * nI p + sp p = nI (p * 20 + s) := by rw [h3, ux_l_mul, nI_add, Nat.mul_comm]
  have e4 : 4 * nI p + nI a = nI (p * 4 + a) := by rw [ux_l_mul, nI_add, Nat.mul_comm]
  have f4 : 4 * nI p + nI b = nI (p * 4 + b) := by rw [ux_l_mul, nI_add, Nat.mul_comm]
  have ca : (nI (p * 4 + a)).toNatClampNeg = p * 4 + a := ux_c (by omega)
  have cb : (nI (p * 4 + b)).toNatClampNeg = p * 4 + b := ux_c (by omega)
  have va : vp_in (nI (p * 4 + a)) 20 := vp_in_nI (by omega) (by decide)
  have vb : vp_in (nI (p * 4 + b)) 20 := vp_in_nI (by omega) (by decide)
  have g1 : ¬ sp p < 0 := by rw [h3]; exact nI_pos (by omega)
  have g2 : ¬ pn p - 1 < sp p := by
    obtain ⟨t, rfl⟩ : ∃ t, l = t + 1 := ⟨l - 1, by omega⟩
    rw [h3, h4, nI_pred]; exact nI_nlt (by omega) (by omega)
  unfold wpY_execute
  dsimp only
  rw [cl, e20, ux_c (n := p * 20 + s) (by omega)]
  refine nm_e ⟨iv, iv, ya_inT g1 g2 (br_f (by decide) ⟨iv, vp_in_nI (by omega) (by decide), nm_e (nm_r ho (nm_r ea (nm_e ?_)))⟩)⟩
  rw [e4, ca]
  refine ⟨va, nm_e (br_f (by decide) <| br_f (by decide) <| br_t (by decide) <| br_f (by decide) <| br_f (by decide) <| br_f (by decide) <| br_f (by decide) <| ?_)⟩
  unfold wpY_simple
  dsimp only
  rw [eb, e4, f4, cb]
  refine nm_e ⟨va, ?_⟩
  rw [ca]
  refine nm_e ⟨vb, nm_e ?_⟩
  refine br_f (by decide) <| br_f (by decide) <| br_f (by decide) <| br_f (by decide) <| br_f (by decide) <| br_f (by decide) <| br_f (by decide) <| br_f (by decide) <| br_f (by decide) <| br_f (by decide) <| br_t rfl ⟨iv, ?_⟩
  rw [cl, hd]
  refine h _ (fun r hr => hr _ (fun r2 h2 => ⟨va, ?_⟩))
  rw [ca]
  exact nm_e (h2)
theorem yj_0 {post : Int32 → SY → Prop} (H : ux_in sp pn pg p s l a b 0) (h : ∀ Q : SY → Prop, (∀ u, post 0 u → Q u) → wpY_end Q (ql, ex + 1, pr, go, kd, le, wo, et, np, st, qp, sp, pn, pg, rg, ee, pc, fi, ow, po, pl, pw, qu, ou) (nI p) (rg (p * 4 + a))) : wpY_execute post (ql, ex, pr, go, kd, le, wo, et, np, st, qp, sp, pn, pg, rg, ee, pc, fi, ow, po, pl, pw, qu, ou) (nI p) := by
  obtain ⟨hp, hi, ho, ha, ea, hb, eb⟩ := H
  obtain ⟨h1, h2, h3, h4⟩ := id hi
  have cl : (nI p).toNatClampNeg = p := ux_c (by omega)
  have iv : vp_in (nI p) 5 := vp_in_nI hp (by decide)
  have e20 : 20 * nI p + sp p = nI (p * 20 + s) := by rw [h3, ux_l_mul, nI_add, Nat.mul_comm]
  have e4 : 4 * nI p + nI a = nI (p * 4 + a) := by rw [ux_l_mul, nI_add, Nat.mul_comm]
  have f4 : 4 * nI p + nI b = nI (p * 4 + b) := by rw [ux_l_mul, nI_add, Nat.mul_comm]
  have ca : (nI (p * 4 + a)).toNatClampNeg = p * 4 + a := ux_c (by omega)
  have cb : (nI (p * 4 + b)).toNatClampNeg = p * 4 + b := ux_c (by omega)
  have va : vp_in (nI (p * 4 + a)) 20 := vp_in_nI (by omega) (by decide)
  have vb : vp_in (nI (p * 4 + b)) 20 := vp_in_nI (by omega) (by decide)
  have g1 : ¬ sp p < 0 := by rw [h3]; exact nI_pos (by omega)
  have g2 : ¬ pn p - 1 < sp p := by
    obtain ⟨t, rfl⟩ : ∃ t, l = t + 1 := ⟨l - 1, by omega⟩
    rw [h3, h4, nI_pred]; exact nI_nlt (by omega) (by omega)
  unfold wpY_execute
  dsimp only
  rw [cl, e20, ux_c (n := p * 20 + s) (by omega)]
  refine nm_e ⟨iv, iv, ya_inT g1 g2 (br_f (by decide) ⟨iv, vp_in_nI (by omega) (by decide), nm_e (nm_r ho (nm_r ea (nm_e ?_)))⟩)⟩
  rw [e4, ca]
  exact ⟨va, nm_e (br_t rfl (h _ (fun u hu => hu)))⟩
theorem yj_8 {post : Int32 → SY → Prop} (H : ux_in sp pn pg p s l a b 8) (h : post 1 (ql, ex + 1, pr, go, kd, le, wo, et, np, st, qp, upd sp p (pg (p * 20 + s) >>> ((9 : Int32) &&& 31)), pn, pg, rg, ee, pc, fi, ow, po, pl, pw, qu, ou)) : wpY_execute post (ql, ex, pr, go, kd, le, wo, et, np, st, qp, sp, pn, pg, rg, ee, pc, fi, ow, po, pl, pw, qu, ou) (nI p) := by
  obtain ⟨hp, hi, ho, ha, ea, hb, eb⟩ := H
  obtain ⟨h1, h2, h3, h4⟩ := id hi
  have cl : (nI p).toNatClampNeg = p := ux_c (by omega)
  have iv : vp_in (nI p) 5 := vp_in_nI hp (by decide)
  have e20 : 20 * nI p + sp p = nI (p * 20 + s) := by rw [h3, ux_l_mul, nI_add, Nat.mul_comm]
  have e4 : 4 * nI p + nI a = nI (p * 4 + a) := by rw [ux_l_mul, nI_add, Nat.mul_comm]
  have f4 : 4 * nI p + nI b = nI (p * 4 + b) := by rw [ux_l_mul, nI_add, Nat.mul_comm]
  have ca : (nI (p * 4 + a)).toNatClampNeg = p * 4 + a := ux_c (by omega)
  have cb : (nI (p * 4 + b)).toNatClampNeg = p * 4 + b := ux_c (by omega)
  have va : vp_in (nI (p * 4 + a)) 20 := vp_in_nI (by omega) (by decide)
  have vb : vp_in (nI (p * 4 + b)) 20 := vp_in_nI (by omega) (by decide)
  have g1 : ¬ sp p < 0 := by rw [h3]; exact nI_pos (by omega)
  have g2 : ¬ pn p - 1 < sp p := by
    obtain ⟨t, rfl⟩ : ∃ t, l = t + 1 := ⟨l - 1, by omega⟩
    rw [h3, h4, nI_pred]; exact nI_nlt (by omega) (by omega)
  unfold wpY_execute
  dsimp only
  rw [cl, e20, ux_c (n := p * 20 + s) (by omega)]
  refine nm_e ⟨iv, iv, ya_inT g1 g2 (br_f (by decide) ⟨iv, vp_in_nI (by omega) (by decide), nm_e (nm_r ho (nm_r ea (nm_e ?_)))⟩)⟩
  rw [e4, ca]
  exact ⟨va, nm_e (br_f (by decide) <| br_f (by decide) <| br_f (by decide) <| br_t rfl <| ⟨iv, nm_e h⟩)⟩
theorem yj_7z {post : Int32 → SY → Prop} (H : ux_in sp pn pg p s l a b 7) (hz : rg (p * 4 + a) = 0) (h : post 1 (ql, ex + 1, pr, go, kd, le, wo, et, np, st, qp, upd sp p (pg (p * 20 + s) >>> ((9 : Int32) &&& 31)), pn, pg, rg, ee, pc, fi, ow, po, pl, pw, qu, ou)) : wpY_execute post (ql, ex, pr, go, kd, le, wo, et, np, st, qp, sp, pn, pg, rg, ee, pc, fi, ow, po, pl, pw, qu, ou) (nI p) := by
  obtain ⟨hp, hi, ho, ha, ea, hb, eb⟩ := H
  obtain ⟨h1, h2, h3, h4⟩ := id hi
  have cl : (nI p).toNatClampNeg = p := ux_c (by omega)
  have iv : vp_in (nI p) 5 := vp_in_nI hp (by decide)
  have e20 : 20 * nI p + sp p = nI (p * 20 + s) := by rw [h3, ux_l_mul, nI_add, Nat.mul_comm]
  have e4 : 4 * nI p + nI a = nI (p * 4 + a) := by rw [ux_l_mul, nI_add, Nat.mul_comm]
  have f4 : 4 * nI p + nI b = nI (p * 4 + b) := by rw [ux_l_mul, nI_add, Nat.mul_comm]
  have ca : (nI (p * 4 + a)).toNatClampNeg = p * 4 + a := ux_c (by omega)
  have cb : (nI (p * 4 + b)).toNatClampNeg = p * 4 + b := ux_c (by omega)
  have va : vp_in (nI (p * 4 + a)) 20 := vp_in_nI (by omega) (by decide)
  have vb : vp_in (nI (p * 4 + b)) 20 := vp_in_nI (by omega) (by decide)
  have g1 : ¬ sp p < 0 := by rw [h3]; exact nI_pos (by omega)
  have g2 : ¬ pn p - 1 < sp p := by
    obtain ⟨t, rfl⟩ : ∃ t, l = t + 1 := ⟨l - 1, by omega⟩
    rw [h3, h4, nI_pred]; exact nI_nlt (by omega) (by omega)
  unfold wpY_execute
  dsimp only
  rw [cl, e20, ux_c (n := p * 20 + s) (by omega)]
  refine nm_e ⟨iv, iv, ya_inT g1 g2 (br_f (by decide) ⟨iv, vp_in_nI (by omega) (by decide), nm_e (nm_r ho (nm_r ea (nm_e ?_)))⟩)⟩
  rw [e4, ca]
  refine ⟨va, nm_e (br_f (by decide) <| br_f (by decide) <| br_f (by decide) <| br_f (by decide) <| br_t hz <| br_t rfl <| br_t rfl ?_)⟩
  rw [cl]
  exact ⟨iv, nm_e h⟩
theorem yj_7n {post : Int32 → SY → Prop} (H : ux_in sp pn pg p s l a b 7) (hz : rg (p * 4 + a) ≠ 0) (h : wY_execute_262 post (nI p) 7 ql (ex + 1) pr 1 kd le wo et np st qp sp pn pg rg ee pc fi ow po pl pw qu ou) : wpY_execute post (ql, ex, pr, go, kd, le, wo, et, np, st, qp, sp, pn, pg, rg, ee, pc, fi, ow, po, pl, pw, qu, ou) (nI p) := by
  obtain ⟨hp, hi, ho, ha, ea, hb, eb⟩ := H
  obtain ⟨h1, h2, h3, h4⟩ := id hi
  have cl : (nI p).toNatClampNeg = p := ux_c (by omega)
  have iv : vp_in (nI p) 5 := vp_in_nI hp (by decide)
  have e20 : 20 * nI p + sp p = nI (p * 20 + s) := by rw [h3, ux_l_mul, nI_add, Nat.mul_comm]
  have e4 : 4 * nI p + nI a = nI (p * 4 + a) := by rw [ux_l_mul, nI_add, Nat.mul_comm]
  have f4 : 4 * nI p + nI b = nI (p * 4 + b) := by rw [ux_l_mul, nI_add, Nat.mul_comm]
  have ca : (nI (p * 4 + a)).toNatClampNeg = p * 4 + a := ux_c (by omega)
  have cb : (nI (p * 4 + b)).toNatClampNeg = p * 4 + b := ux_c (by omega)
  have va : vp_in (nI (p * 4 + a)) 20 := vp_in_nI (by omega) (by decide)
  have vb : vp_in (nI (p * 4 + b)) 20 := vp_in_nI (by omega) (by decide)
  have g1 : ¬ sp p < 0 := by rw [h3]; exact nI_pos (by omega)
  have g2 : ¬ pn p - 1 < sp p := by
    obtain ⟨t, rfl⟩ : ∃ t, l = t + 1 := ⟨l - 1, by omega⟩
    rw [h3, h4, nI_pred]; exact nI_nlt (by omega) (by omega)
  unfold wpY_execute
  dsimp only
  rw [cl, e20, ux_c (n := p * 20 + s) (by omega)]
  refine nm_e ⟨iv, iv, ya_inT g1 g2 (br_f (by decide) ⟨iv, vp_in_nI (by omega) (by decide), nm_e (nm_r ho (nm_r ea (nm_e ?_)))⟩)⟩
  rw [e4, ca]
  refine ⟨va, nm_e (br_f (by decide) <| br_f (by decide) <| br_f (by decide) <| br_f (by decide) <| br_f hz <| br_t rfl <| br_f (by decide) <| br_f (by decide) <| br_t (by decide) <| br_f (by decide) <| ?_)⟩
  unfold wpY_simple
  dsimp only
  rw [eb, e4, f4, cb]
  refine nm_e ⟨va, ?_⟩
  rw [ca]
  refine nm_e ⟨vb, nm_e ?_⟩
  exact br_f (by decide) <| br_f (by decide) <| br_f (by decide) <| br_f (by decide) <| br_f (by decide) <| br_f (by decide) <| br_f (by decide) <| br_f (by decide) <| br_f (by decide) <| br_f (by decide) <| br_f (by decide) <| h
theorem yj_9z {post : Int32 → SY → Prop} (H : ux_in sp pn pg p s l a b 9) (hz : rg (p * 4 + a) = 0) (h : wY_execute_262 post (nI p) 9 ql (ex + 1) pr 1 kd le wo et np st qp sp pn pg rg ee pc fi ow po pl pw qu ou) : wpY_execute post (ql, ex, pr, go, kd, le, wo, et, np, st, qp, sp, pn, pg, rg, ee, pc, fi, ow, po, pl, pw, qu, ou) (nI p) := by
  obtain ⟨hp, hi, ho, ha, ea, hb, eb⟩ := H
  obtain ⟨h1, h2, h3, h4⟩ := id hi
  have cl : (nI p).toNatClampNeg = p := ux_c (by omega)
  have iv : vp_in (nI p) 5 := vp_in_nI hp (by decide)
  have e20 : 20 * nI p + sp p = nI (p * 20 + s) := by rw [h3, ux_l_mul, nI_add, Nat.mul_comm]
  have e4 : 4 * nI p + nI a = nI (p * 4 + a) := by rw [ux_l_mul, nI_add, Nat.mul_comm]
  have f4 : 4 * nI p + nI b = nI (p * 4 + b) := by rw [ux_l_mul, nI_add, Nat.mul_comm]
  have ca : (nI (p * 4 + a)).toNatClampNeg = p * 4 + a := ux_c (by omega)
  have cb : (nI (p * 4 + b)).toNatClampNeg = p * 4 + b := ux_c (by omega)
  have va : vp_in (nI (p * 4 + a)) 20 := vp_in_nI (by omega) (by decide)
  have vb : vp_in (nI (p * 4 + b)) 20 := vp_in_nI (by omega) (by decide)
  have g1 : ¬ sp p < 0 := by rw [h3]; exact nI_pos (by omega)
  have g2 : ¬ pn p - 1 < sp p := by
    obtain ⟨t, rfl⟩ : ∃ t, l = t + 1 := ⟨l - 1, by omega⟩
    rw [h3, h4, nI_pred]; exact nI_nlt (by omega) (by omega)
  unfold wpY_execute
  dsimp only
  rw [cl, e20, ux_c (n := p * 20 + s) (by omega)]
  refine nm_e ⟨iv, iv, ya_inT g1 g2 (br_f (by decide) ⟨iv, vp_in_nI (by omega) (by decide), nm_e (nm_r ho (nm_r ea (nm_e ?_)))⟩)⟩
  rw [e4, ca]
  refine ⟨va, nm_e (br_f (by decide) <| br_f (by decide) <| br_f (by decide) <| br_f (by decide) <| br_t hz <| br_f (by decide) <| br_f (by decide) <| br_f (by decide) <| br_t (by decide) <| br_f (by decide) <| ?_)⟩
  unfold wpY_simple
  dsimp only
  rw [eb, e4, f4, cb]
  refine nm_e ⟨va, ?_⟩
  rw [ca]
  refine nm_e ⟨vb, nm_e ?_⟩
  exact br_f (by decide) <| br_f (by decide) <| br_f (by decide) <| br_f (by decide) <| br_f (by decide) <| br_f (by decide) <| br_f (by decide) <| br_f (by decide) <| br_f (by decide) <| br_f (by decide) <| br_f (by decide) <| h
theorem yj_9n {post : Int32 → SY → Prop} (H : ux_in sp pn pg p s l a b 9) (hz : rg (p * 4 + a) ≠ 0) (h : post 1 (ql, ex + 1, pr, go, kd, le, wo, et, np, st, qp, upd sp p (pg (p * 20 + s) >>> ((9 : Int32) &&& 31)), pn, pg, rg, ee, pc, fi, ow, po, pl, pw, qu, ou)) : wpY_execute post (ql, ex, pr, go, kd, le, wo, et, np, st, qp, sp, pn, pg, rg, ee, pc, fi, ow, po, pl, pw, qu, ou) (nI p) := by
  obtain ⟨hp, hi, ho, ha, ea, hb, eb⟩ := H
  obtain ⟨h1, h2, h3, h4⟩ := id hi
  have cl : (nI p).toNatClampNeg = p := ux_c (by omega)
  have iv : vp_in (nI p) 5 := vp_in_nI hp (by decide)
  have e20 : 20 * nI p + sp p = nI (p * 20 + s) := by rw [h3, ux_l_mul, nI_add, Nat.mul_comm]
  have e4 : 4 * nI p + nI a = nI (p * 4 + a) := by rw [ux_l_mul, nI_add, Nat.mul_comm]
  have f4 : 4 * nI p + nI b = nI (p * 4 + b) := by rw [ux_l_mul, nI_add, Nat.mul_comm]
  have ca : (nI (p * 4 + a)).toNatClampNeg = p * 4 + a := ux_c (by omega)
  have cb : (nI (p * 4 + b)).toNatClampNeg = p * 4 + b := ux_c (by omega)
  have va : vp_in (nI (p * 4 + a)) 20 := vp_in_nI (by omega) (by decide)
  have vb : vp_in (nI (p * 4 + b)) 20 := vp_in_nI (by omega) (by decide)
  have g1 : ¬ sp p < 0 := by rw [h3]; exact nI_pos (by omega)
  have g2 : ¬ pn p - 1 < sp p := by
    obtain ⟨t, rfl⟩ : ∃ t, l = t + 1 := ⟨l - 1, by omega⟩
    rw [h3, h4, nI_pred]; exact nI_nlt (by omega) (by omega)
  unfold wpY_execute
  dsimp only
  rw [cl, e20, ux_c (n := p * 20 + s) (by omega)]
  refine nm_e ⟨iv, iv, ya_inT g1 g2 (br_f (by decide) ⟨iv, vp_in_nI (by omega) (by decide), nm_e (nm_r ho (nm_r ea (nm_e ?_)))⟩)⟩
  rw [e4, ca]
  refine ⟨va, nm_e (br_f (by decide) <| br_f (by decide) <| br_f (by decide) <| br_f (by decide) <| br_f hz <| br_f (by decide) <| br_t rfl ?_)⟩
  rw [cl]
  exact ⟨iv, nm_e h⟩
theorem yj_12n {post : Int32 → SY → Prop} {d : Nat} (H : ux_in sp pn pg p s l a b 12) (hd : pc p = nI d) (hd2 : d < 10) (hno : ux_no en d (rg (p * 4 + a))) (h : wY_execute_262 post (nI p) 12 ql (ex + 1) pr 1 kd le wo (ux_EN en) np st qp sp pn pg (upd rg (p * 4 + 3) (-1)) ee pc fi ow po pl pw qu ou) : wpY_execute post (ql, ex, pr, go, kd, le, wo, ux_EN en, np, st, qp, sp, pn, pg, rg, ee, pc, fi, ow, po, pl, pw, qu, ou) (nI p) := by
  obtain ⟨hp, hi, ho, ha, ea, hb, eb⟩ := H
  obtain ⟨h1, h2, h3, h4⟩ := id hi
  have cl : (nI p).toNatClampNeg = p := ux_c (by omega)
  have iv : vp_in (nI p) 5 := vp_in_nI hp (by decide)
  have e20 : 20 * nI p + sp p = nI (p * 20 + s) := by rw [h3, ux_l_mul, nI_add, Nat.mul_comm]
  have e4 : 4 * nI p + nI a = nI (p * 4 + a) := by rw [ux_l_mul, nI_add, Nat.mul_comm]
  have f4 : 4 * nI p + nI b = nI (p * 4 + b) := by rw [ux_l_mul, nI_add, Nat.mul_comm]
  have ca : (nI (p * 4 + a)).toNatClampNeg = p * 4 + a := ux_c (by omega)
  have cb : (nI (p * 4 + b)).toNatClampNeg = p * 4 + b := ux_c (by omega)
  have va : vp_in (nI (p * 4 + a)) 20 := vp_in_nI (by omega) (by decide)
  have vb : vp_in (nI (p * 4 + b)) 20 := vp_in_nI (by omega) (by decide)
  have g1 : ¬ sp p < 0 := by rw [h3]; exact nI_pos (by omega)
  have g2 : ¬ pn p - 1 < sp p := by
    obtain ⟨t, rfl⟩ : ∃ t, l = t + 1 := ⟨l - 1, by omega⟩
    rw [h3, h4, nI_pred]; exact nI_nlt (by omega) (by omega)
  unfold wpY_execute
  dsimp only
  rw [cl, e20, ux_c (n := p * 20 + s) (by omega)]
  refine nm_e ⟨iv, iv, ya_inT g1 g2 (br_f (by decide) ⟨iv, vp_in_nI (by omega) (by decide), nm_e (nm_r ho (nm_r ea (nm_e ?_)))⟩)⟩
  rw [e4, ca]
  refine ⟨va, nm_e (br_f (by decide) <| br_f (by decide) <| br_t (by decide) <| br_t rfl ⟨iv, ?_⟩)⟩
  rw [cl, hd]
  refine ya_nmN hd2 hno (br_t (by decide) ?_)
  unfold wY_execute_199 wpY_fail
  rw [show 4 * nI p + 3 = nI (p * 4 + 3) by rw [ux_l_mul, ux_add_l, Nat.mul_comm], ux_c (n := p * 4 + 3) (by omega)]
  refine ⟨vp_in_nI (by omega) (by decide), nm_e (br_t (by decide) <| br_f (by decide) ?_)⟩
  unfold wpY_simple
  dsimp only
  rw [eb, e4, f4, cb]
  refine nm_e ⟨va, ?_⟩
  rw [ca]
  refine nm_e ⟨vb, nm_e ?_⟩
  exact br_f (by decide) <| br_f (by decide) <| br_f (by decide) <| br_f (by decide) <| br_f (by decide) <| br_f (by decide) <| br_f (by decide) <| br_f (by decide) <| br_f (by decide) <| br_f (by decide) <| br_f (by decide) <| h
theorem yj_12d {post : Int32 → SY → Prop} {d q n : Nat} (H : ux_in sp pn pg p s l a b 12) (hd : pc p = nI d) (hd2 : d < 10) (hye : ux_ye en d (rg (p * 4 + a)) q n) (hk : kd n ≠ 1) (h : wY_execute_262 post (nI p) 12 ql (ex + 1) pr 1 kd le wo (ux_EN en) np st qp sp pn pg (upd rg (p * 4 + 3) (-1)) ee pc fi ow po pl pw qu ou) : wpY_execute post (ql, ex, pr, go, kd, le, wo, ux_EN en, np, st, qp, sp, pn, pg, rg, ee, pc, fi, ow, po, pl, pw, qu, ou) (nI p) := by
  obtain ⟨hp, hi, ho, ha, ea, hb, eb⟩ := H
  obtain ⟨h1, h2, h3, h4⟩ := id hi
  have cl : (nI p).toNatClampNeg = p := ux_c (by omega)
  have iv : vp_in (nI p) 5 := vp_in_nI hp (by decide)
  have e20 : 20 * nI p + sp p = nI (p * 20 + s) := by rw [h3, ux_l_mul, nI_add, Nat.mul_comm]
  have e4 : 4 * nI p + nI a = nI (p * 4 + a) := by rw [ux_l_mul, nI_add, Nat.mul_comm]
  have f4 : 4 * nI p + nI b = nI (p * 4 + b) := by rw [ux_l_mul, nI_add, Nat.mul_comm]
  have ca : (nI (p * 4 + a)).toNatClampNeg = p * 4 + a := ux_c (by omega)
  have cb : (nI (p * 4 + b)).toNatClampNeg = p * 4 + b := ux_c (by omega)
  have va : vp_in (nI (p * 4 + a)) 20 := vp_in_nI (by omega) (by decide)
  have vb : vp_in (nI (p * 4 + b)) 20 := vp_in_nI (by omega) (by decide)
  have g1 : ¬ sp p < 0 := by rw [h3]; exact nI_pos (by omega)
  have g2 : ¬ pn p - 1 < sp p := by
    obtain ⟨t, rfl⟩ : ∃ t, l = t + 1 := ⟨l - 1, by omega⟩
    rw [h3, h4, nI_pred]; exact nI_nlt (by omega) (by omega)
  unfold wpY_execute
  dsimp only
  rw [cl, e20, ux_c (n := p * 20 + s) (by omega)]
  refine nm_e ⟨iv, iv, ya_inT g1 g2 (br_f (by decide) ⟨iv, vp_in_nI (by omega) (by decide), nm_e (nm_r ho (nm_r ea (nm_e ?_)))⟩)⟩
  rw [e4, ca]
  have hn := hye.2.2.2.1
  refine ⟨va, nm_e (br_f (by decide) <| br_f (by decide) <| br_t (by decide) <| br_t rfl ⟨iv, ?_⟩)⟩
  rw [cl, hd]
  refine ya_nmY hd2 hye (br_f (nI_pos (by omega)) ⟨vp_in_nI hn (by decide), br_f (by rw [ux_c (by omega)]; exact hk) ?_⟩)
  unfold wY_execute_199 wpY_fail
  rw [show 4 * nI p + 3 = nI (p * 4 + 3) by rw [ux_l_mul, ux_add_l, Nat.mul_comm], ux_c (n := p * 4 + 3) (by omega)]
  refine ⟨vp_in_nI (by omega) (by decide), nm_e (br_t (by decide) <| br_f (by decide) ?_)⟩
  unfold wpY_simple
  dsimp only
  rw [eb, e4, f4, cb]
  refine nm_e ⟨va, ?_⟩
  rw [ca]
  refine nm_e ⟨vb, nm_e ?_⟩
  exact br_f (by decide) <| br_f (by decide) <| br_f (by decide) <| br_f (by decide) <| br_f (by decide) <| br_f (by decide) <| br_f (by decide) <| br_f (by decide) <| br_f (by decide) <| br_f (by decide) <| br_f (by decide) <| h
theorem yj_12y {post : Int32 → SY → Prop} {d q n : Nat} (H : ux_in sp pn pg p s l a b 12) (hd : pc p = nI d) (hd2 : d < 10) (hye : ux_ye en d (rg (p * 4 + a)) q n) (hk : kd n = 1) (h : post 1 (ql, ex + 1, pr, go, kd, le, wo, ux_EN en, np, st, qp, upd sp p 0, upd pn p (le n), ux_cw pg wo (p * 20) (n * 20) 20, rg, ee, pc, fi, ow, po, pl, pw, qu, ou)) : wpY_execute post (ql, ex, pr, go, kd, le, wo, ux_EN en, np, st, qp, sp, pn, pg, rg, ee, pc, fi, ow, po, pl, pw, qu, ou) (nI p) := by
  obtain ⟨hp, hi, ho, ha, ea, hb, eb⟩ := H
  obtain ⟨h1, h2, h3, h4⟩ := id hi
  have cl : (nI p).toNatClampNeg = p := ux_c (by omega)
  have iv : vp_in (nI p) 5 := vp_in_nI hp (by decide)
  have e20 : 20 * nI p + sp p = nI (p * 20 + s) := by rw [h3, ux_l_mul, nI_add, Nat.mul_comm]
  have e4 : 4 * nI p + nI a = nI (p * 4 + a) := by rw [ux_l_mul, nI_add, Nat.mul_comm]
  have f4 : 4 * nI p + nI b = nI (p * 4 + b) := by rw [ux_l_mul, nI_add, Nat.mul_comm]
  have ca : (nI (p * 4 + a)).toNatClampNeg = p * 4 + a := ux_c (by omega)
  have cb : (nI (p * 4 + b)).toNatClampNeg = p * 4 + b := ux_c (by omega)
  have va : vp_in (nI (p * 4 + a)) 20 := vp_in_nI (by omega) (by decide)
  have vb : vp_in (nI (p * 4 + b)) 20 := vp_in_nI (by omega) (by decide)
  have g1 : ¬ sp p < 0 := by rw [h3]; exact nI_pos (by omega)
  have g2 : ¬ pn p - 1 < sp p := by
    obtain ⟨t, rfl⟩ : ∃ t, l = t + 1 := ⟨l - 1, by omega⟩
    rw [h3, h4, nI_pred]; exact nI_nlt (by omega) (by omega)
  unfold wpY_execute
  dsimp only
  rw [cl, e20, ux_c (n := p * 20 + s) (by omega)]
  refine nm_e ⟨iv, iv, ya_inT g1 g2 (br_f (by decide) ⟨iv, vp_in_nI (by omega) (by decide), nm_e (nm_r ho (nm_r ea (nm_e ?_)))⟩)⟩
  rw [e4, ca]
  have hn := hye.2.2.2.1
  refine ⟨va, nm_e (br_f (by decide) <| br_f (by decide) <| br_t (by decide) <| br_t rfl ⟨iv, ?_⟩)⟩
  rw [cl, hd]
  exact ya_nmY hd2 hye (br_f (nI_pos (by omega)) ⟨vp_in_nI hn (by decide), br_t (by rw [ux_c (by omega)]; exact hk) (ya_ld hp hn h)⟩)

theorem yj_out {post : Int32 → SY → Prop} (hp : p < 5) (hu : ux_up sp pn p l) (h : ∀ Q : SY → Prop, (∀ u, post 0 u → Q u) → wpY_end Q (ql, ex + 1, pr, go, kd, le, wo, et, np, st, qp, sp, pn, pg, rg, ee, pc, fi, ow, po, pl, pw, qu, ou) (nI p) (-4)) : wpY_execute post (ql, ex, pr, go, kd, le, wo, et, np, st, qp, sp, pn, pg, rg, ee, pc, fi, ow, po, pl, pw, qu, ou) (nI p) := by
  obtain ⟨h1, h2, h3⟩ := hu
  have cl : (nI p).toNatClampNeg = p := ux_c (by omega)
  have iv : vp_in (nI p) 5 := vp_in_nI hp (by decide)
  unfold wpY_execute
  dsimp only
  rw [cl]
  refine nm_e ⟨iv, iv, ya_inF ?_ (br_t rfl (h _ (fun u hu => hu)))⟩
  rcases h3 with h3 | ⟨h3, h4⟩
  · exact Or.inl h3
  · rw [h2]; exact Or.inr (ux_hm1 h3 h4 h1)
end UX15Y
end
section
section UX17
variable {ql pr : Int32} {ex : Int64} {kd ns np wo en st pp sp pc pg pn rg ds fi ow po pw pl qu ou : Nat → Int32}
variable {qp : Nat → Int32} {go : Int32} {B p s l a b m c : Nat} {r : Int32} {u : SX} {v : SY}
/-- the states in p's turn: related, p not in the queue; r says whether the turn goes on -/
def ux_T (B p : Nat) (r : Int32) (u : SX) (v : SY) : Prop := ∃ (ex : Int64) (kd ns np wo en st pp sp pc pg pn rg ds fi ow po pw pl qu ou qp : Nat → Int32) (go : Int32) (m c : Nat),
  u = (nI m, nI c, ex, kd, ns, np, wo, en, st, pp, sp, pc, pg, pn, rg, ds, fi, ow, po, pw, pl, qu, ou) ∧ v = ((nI m), ex, (nI c), go, kd, (ux_LN kd ns), wo, (ux_EN en), np, st, qp, sp, pn, pg, rg, (ux_ED ds), pc, fi, ow, po, pl, pw, qu, ou) ∧ ux_J B kd ns np en ds fi ow po st pp qp pc pn pl qu m c ∧ ux_N qu m p ∧ (r = 0 ∨ (r = 1 ∧ st p = 1))
def ux_G (B p : Nat) (u : SX) (v : SY) : Prop := ∃ (r : Int32) (u1 u2 : SX) (v2 : SY), (∀ post : Int32 → SX → Prop, post r u1 → wpX_execute post u (nI p)) ∧ (∀ post : SX → Prop, post u2 → wpX_freeLostFiles post u1) ∧ (∀ post : Int32 → SY → Prop, post r v2 → wpY_execute post v (nI p)) ∧ ux_T B p r u2 v2
theorem ux_G2 (hX : ∀ post : Int32 → SX → Prop, post r (nI m, nI c, ex, kd, ns, np, wo, en, st, pp, sp, pc, pg, pn, rg, ds, fi, ow, po, pw, pl, qu, ou) → wpX_execute post u (nI p)) (hY : ∀ post : Int32 → SY → Prop, post r ((nI m), ex, (nI c), go, (ux_ck kd en ds fi), (ux_LN (ux_ck kd en ds fi) ns), wo, (ux_EN en), np, st, qp, sp, pn, pg, rg, (ux_ED ds), pc, fi, ow, po, pl, pw, qu, ou) → wpY_execute post v (nI p)) (hD : ux_D ds) (hJ : ux_J B (ux_ck kd en ds fi) ns np en ds fi ow po st pp qp pc pn pl qu m c) (hN : ux_N qu m p) (hr : r = 0 ∨ (r = 1 ∧ st p = 1)) : ux_G B p u v :=
  ⟨r, _, _, _, hX, fun _ h => xa_fl hD h, hY, ⟨ex, ux_ck kd en ds fi, ns, np, wo, en, st, pp, sp, pc, pg, pn, rg, ds, fi, ow, po, pw, pl, qu, ou, qp, go, m, c, rfl, rfl, hJ, hN, hr⟩⟩
theorem ux_G1 (hX : ∀ post : Int32 → SX → Prop, post r (nI m, nI c, ex, kd, ns, np, wo, en, st, pp, sp, pc, pg, pn, rg, ds, fi, ow, po, pw, pl, qu, ou) → wpX_execute post u (nI p)) (hY : ∀ post : Int32 → SY → Prop, post r ((nI m), ex, (nI c), go, kd, (ux_LN kd ns), wo, (ux_EN en), np, st, qp, sp, pn, pg, rg, (ux_ED ds), pc, fi, ow, po, pl, pw, qu, ou) → wpY_execute post v (nI p)) (hJ : ux_J B kd ns np en ds fi ow po st pp qp pc pn pl qu m c) (hN : ux_N qu m p) (hr : r = 0 ∨ (r = 1 ∧ st p = 1)) : ux_G B p u v := by
  have e : ux_ck kd en ds fi = kd := ux_ck_id hJ.2.2.2.2.2.2.2.1 hJ.1.1.1
  exact ux_G2 (kd := kd) hX (by rw [e]; exact hY) hJ.2.1 (by rw [e]; exact hJ) hN hr
theorem op_1 (hJ : ux_J B kd ns np en ds fi ow po st pp qp pc pn pl qu m c) (hN : ux_N qu m p) (hs : st p = 1) (H : ux_in sp pn pg p s l a b 1) : ux_G (B + 1) p (nI m, nI c, ex + 1, kd, ns, np, wo, en, st, pp, sp, pc, pg, pn, rg, ds, fi, ow, po, pw, pl, qu, ou) ((nI m), ex, (nI c), go, kd, (ux_LN kd ns), wo, (ux_EN en), np, st, qp, sp, pn, pg, rg, (ux_ED ds), pc, fi, ow, po, pl, pw, qu, ou) :=
  ux_G1 (go := 1) (fun _ h => xj_1 H (x634a H.1 hs (by decide) h)) (fun _ h => yj_1 H (y262a H.1 rfl (by decide) h)) (ux_J_mono hJ (by omega)) hN (Or.inr ⟨rfl, hs⟩)
theorem op_2 (hJ : ux_J B kd ns np en ds fi ow po st pp qp pc pn pl qu m c) (hN : ux_N qu m p) (hs : st p = 1) (H : ux_in sp pn pg p s l a b 2) : ux_G (B + 1) p (nI m, nI c, ex + 1, kd, ns, np, wo, en, st, pp, sp, pc, pg, pn, rg, ds, fi, ow, po, pw, pl, qu, ou) ((nI m), ex, (nI c), go, kd, (ux_LN kd ns), wo, (ux_EN en), np, st, qp, sp, pn, pg, rg, (ux_ED ds), pc, fi, ow, po, pl, pw, qu, ou) :=
  ux_G1 (go := 1) (fun _ h => xj_2 H (x634a H.1 hs (by decide) h)) (fun _ h => yj_2 H (y262a H.1 rfl (by decide) h)) (ux_J_mono hJ (by omega)) hN (Or.inr ⟨rfl, hs⟩)
theorem op_3 (hJ : ux_J B kd ns np en ds fi ow po st pp qp pc pn pl qu m c) (hN : ux_N qu m p) (hs : st p = 1) (H : ux_in sp pn pg p s l a b 3) : ux_G (B + 1) p (nI m, nI c, ex + 1, kd, ns, np, wo, en, st, pp, sp, pc, pg, pn, rg, ds, fi, ow, po, pw, pl, qu, ou) ((nI m), ex, (nI c), go, kd, (ux_LN kd ns), wo, (ux_EN en), np, st, qp, sp, pn, pg, rg, (ux_ED ds), pc, fi, ow, po, pl, pw, qu, ou) :=
  ux_G1 (go := 1) (fun _ h => xj_3 H (x634a H.1 hs (by decide) h)) (fun _ h => yj_3 H (y262a H.1 rfl (by decide) h)) (ux_J_mono hJ (by omega)) hN (Or.inr ⟨rfl, hs⟩)
theorem op_4 (hJ : ux_J B kd ns np en ds fi ow po st pp qp pc pn pl qu m c) (hN : ux_N qu m p) (hs : st p = 1) (H : ux_in sp pn pg p s l a b 4) : ux_G (B + 1) p (nI m, nI c, ex + 1, kd, ns, np, wo, en, st, pp, sp, pc, pg, pn, rg, ds, fi, ow, po, pw, pl, qu, ou) ((nI m), ex, (nI c), go, kd, (ux_LN kd ns), wo, (ux_EN en), np, st, qp, sp, pn, pg, rg, (ux_ED ds), pc, fi, ow, po, pl, pw, qu, ou) :=
  ux_G1 (go := 1) (fun _ h => xj_4 H (x634a H.1 hs (by decide) h)) (fun _ h => yj_4 H (y262a H.1 rfl (by decide) h)) (ux_J_mono hJ (by omega)) hN (Or.inr ⟨rfl, hs⟩)
theorem op_5 (hJ : ux_J B kd ns np en ds fi ow po st pp qp pc pn pl qu m c) (hN : ux_N qu m p) (hs : st p = 1) (H : ux_in sp pn pg p s l a b 5) : ux_G (B + 1) p (nI m, nI c, ex + 1, kd, ns, np, wo, en, st, pp, sp, pc, pg, pn, rg, ds, fi, ow, po, pw, pl, qu, ou) ((nI m), ex, (nI c), go, kd, (ux_LN kd ns), wo, (ux_EN en), np, st, qp, sp, pn, pg, rg, (ux_ED ds), pc, fi, ow, po, pl, pw, qu, ou) :=
  ux_G1 (go := 1) (fun _ h => xj_5 H (x634a H.1 hs (by decide) h)) (fun _ h => yj_5 H (y262a H.1 rfl (by decide) h)) (ux_J_mono hJ (by omega)) hN (Or.inr ⟨rfl, hs⟩)
theorem op_6 (hJ : ux_J B kd ns np en ds fi ow po st pp qp pc pn pl qu m c) (hN : ux_N qu m p) (hs : st p = 1) (H : ux_in sp pn pg p s l a b 6) : ux_G (B + 1) p (nI m, nI c, ex + 1, kd, ns, np, wo, en, st, pp, sp, pc, pg, pn, rg, ds, fi, ow, po, pw, pl, qu, ou) ((nI m), ex, (nI c), go, kd, (ux_LN kd ns), wo, (ux_EN en), np, st, qp, sp, pn, pg, rg, (ux_ED ds), pc, fi, ow, po, pl, pw, qu, ou) :=
  ux_G1 (go := 1) (fun _ h => xj_6 H (x634a H.1 hs (by decide) h)) (fun _ h => yj_6 H (y262a H.1 rfl (by decide) h)) (ux_J_mono hJ (by omega)) hN (Or.inr ⟨rfl, hs⟩)
theorem op_26 (hJ : ux_J B kd ns np en ds fi ow po st pp qp pc pn pl qu m c) (hN : ux_N qu m p) (hs : st p = 1) (H : ux_in sp pn pg p s l a b 26) : ux_G (B + 1) p (nI m, nI c, ex + 1, kd, ns, np, wo, en, st, pp, sp, pc, pg, pn, rg, ds, fi, ow, po, pw, pl, qu, ou) ((nI m), ex, (nI c), go, kd, (ux_LN kd ns), wo, (ux_EN en), np, st, qp, sp, pn, pg, rg, (ux_ED ds), pc, fi, ow, po, pl, pw, qu, ou) :=
  ux_G1 (go := 1) (fun _ h => xj_26 H (x634a H.1 hs (by decide) h)) (fun _ h => yj_26 H (y262a H.1 rfl (by decide) h)) (ux_J_mono hJ (by omega)) hN (Or.inr ⟨rfl, hs⟩)
theorem op_29 (hJ : ux_J B kd ns np en ds fi ow po st pp qp pc pn pl qu m c) (hN : ux_N qu m p) (hs : st p = 1) (H : ux_in sp pn pg p s l a b 29) : ux_G (B + 1) p (nI m, nI c, ex + 1, kd, ns, np, wo, en, st, pp, sp, pc, pg, pn, rg, ds, fi, ow, po, pw, pl, qu, ou) ((nI m), ex, (nI c), go, kd, (ux_LN kd ns), wo, (ux_EN en), np, st, qp, sp, pn, pg, rg, (ux_ED ds), pc, fi, ow, po, pl, pw, qu, ou) :=
  ux_G1 (r := 1) (go := 1) (rg := rg) (sp := upd sp p (sp p + 1)) (ex := ex + 1) (kd := kd) (ns := ns) (np := np) (wo := wo) (en := en) (st := st) (pp := pp) (pc := pc) (pg := pg) (pn := pn) (ds := ds) (fi := fi) (ow := ow) (po := po) (pw := pw) (pl := pl) (qu := qu) (ou := ou) (qp := qp) (m := m) (c := c) (fun _ h => xj_29 H (by rw [ux_ue rfl]; exact x634a H.1 hs (by decide) h)) (fun _ h => yj_29 H (y262a H.1 rfl (by decide) h)) (ux_J_mono hJ (by omega)) hN (Or.inr ⟨rfl, hs⟩)
theorem op_30 (hJ : ux_J B kd ns np en ds fi ow po st pp qp pc pn pl qu m c) (hN : ux_N qu m p) (hs : st p = 1) (H : ux_in sp pn pg p s l a b 30) : ux_G (B + 1) p (nI m, nI c, ex + 1, kd, ns, np, wo, en, st, pp, sp, pc, pg, pn, rg, ds, fi, ow, po, pw, pl, qu, ou) ((nI m), ex, (nI c), go, kd, (ux_LN kd ns), wo, (ux_EN en), np, st, qp, sp, pn, pg, rg, (ux_ED ds), pc, fi, ow, po, pl, pw, qu, ou) :=
  ux_G1 (r := 1) (go := 1) (rg := rg) (sp := upd sp p (sp p + 1)) (ex := ex + 1) (kd := kd) (ns := ns) (np := np) (wo := wo) (en := en) (st := st) (pp := pp) (pc := pc) (pg := pg) (pn := pn) (ds := ds) (fi := fi) (ow := ow) (po := po) (pw := pw) (pl := pl) (qu := qu) (ou := ou) (qp := qp) (m := m) (c := c) (fun _ h => xj_30 H (by rw [ux_ue rfl]; exact x634a H.1 hs (by decide) h)) (fun _ h => yj_30 H (y262a H.1 rfl (by decide) h)) (ux_J_mono hJ (by omega)) hN (Or.inr ⟨rfl, hs⟩)
theorem op_31 (hJ : ux_J B kd ns np en ds fi ow po st pp qp pc pn pl qu m c) (hN : ux_N qu m p) (hs : st p = 1) (H : ux_in sp pn pg p s l a b 31) : ux_G (B + 1) p (nI m, nI c, ex + 1, kd, ns, np, wo, en, st, pp, sp, pc, pg, pn, rg, ds, fi, ow, po, pw, pl, qu, ou) ((nI m), ex, (nI c), go, kd, (ux_LN kd ns), wo, (ux_EN en), np, st, qp, sp, pn, pg, rg, (ux_ED ds), pc, fi, ow, po, pl, pw, qu, ou) :=
  ux_G1 (r := 1) (go := 1) (rg := rg) (sp := upd sp p (sp p + 1)) (ex := ex + 1) (kd := kd) (ns := ns) (np := np) (wo := wo) (en := en) (st := st) (pp := pp) (pc := pc) (pg := pg) (pn := pn) (ds := ds) (fi := fi) (ow := ow) (po := po) (pw := pw) (pl := pl) (qu := qu) (ou := ou) (qp := qp) (m := m) (c := c) (fun _ h => xj_31 H (by rw [ux_ue rfl]; exact x634a H.1 hs (by decide) h)) (fun _ h => yj_31 H (y262a H.1 rfl (by decide) h)) (ux_J_mono hJ (by omega)) hN (Or.inr ⟨rfl, hs⟩)
theorem op_25 (hJ : ux_J B kd ns np en ds fi ow po st pp qp pc pn pl qu m c) (hN : ux_N qu m p) (hs : st p = 1) (H : ux_in sp pn pg p s l a b 25) : ux_G (B + 1) p (nI m, nI c, ex + 1, kd, ns, np, wo, en, st, pp, sp, pc, pg, pn, rg, ds, fi, ow, po, pw, pl, qu, ou) ((nI m), ex, (nI c), go, kd, (ux_LN kd ns), wo, (ux_EN en), np, st, qp, sp, pn, pg, rg, (ux_ED ds), pc, fi, ow, po, pl, pw, qu, ou) :=
  ux_G1 (r := 0) (go := 1) (rg := rg) (sp := upd sp p (sp p + 1)) (ex := ex + 1) (kd := kd) (ns := ns) (np := np) (wo := wo) (en := en) (st := st) (pp := pp) (pc := pc) (pg := pg) (pn := pn) (ds := ds) (fi := fi) (ow := ow) (po := po) (pw := pw) (pl := pl) (qu := qu) (ou := ou) (qp := qp) (m := m) (c := c) (fun _ h => xj_25 H (by rw [ux_ue rfl]; exact x634y H.1 hs h)) (fun _ h => yj_25 H (y262y H.1 rfl h)) (ux_J_mono hJ (by omega)) hN (Or.inl rfl)
theorem op_8 (hJ : ux_J B kd ns np en ds fi ow po st pp qp pc pn pl qu m c) (hN : ux_N qu m p) (hs : st p = 1) (H : ux_in sp pn pg p s l a b 8) : ux_G (B + 1) p (nI m, nI c, ex + 1, kd, ns, np, wo, en, st, pp, sp, pc, pg, pn, rg, ds, fi, ow, po, pw, pl, qu, ou) ((nI m), ex, (nI c), go, kd, (ux_LN kd ns), wo, (ux_EN en), np, st, qp, sp, pn, pg, rg, (ux_ED ds), pc, fi, ow, po, pl, pw, qu, ou) :=
  ux_G1 (r := 1) (go := go) (sp := upd sp p (pg (p * 20 + s) >>> ((9 : Int32) &&& 31))) (ex := ex + 1) (kd := kd) (ns := ns) (np := np) (wo := wo) (en := en) (st := st) (pp := pp) (pc := pc) (pg := pg) (pn := pn) (rg := rg) (ds := ds) (fi := fi) (ow := ow) (po := po) (pw := pw) (pl := pl) (qu := qu) (ou := ou) (qp := qp) (m := m) (c := c) (fun _ h => xj_8 H (by rw [ux_uu]; exact x634a H.1 hs (by decide) h)) (fun _ h => yj_8 H h) (ux_J_mono hJ (by omega)) hN (Or.inr ⟨rfl, hs⟩)
theorem op_7 (hJ : ux_J B kd ns np en ds fi ow po st pp qp pc pn pl qu m c) (hN : ux_N qu m p) (hs : st p = 1) (H : ux_in sp pn pg p s l a b 7) : ux_G (B + 1) p (nI m, nI c, ex + 1, kd, ns, np, wo, en, st, pp, sp, pc, pg, pn, rg, ds, fi, ow, po, pw, pl, qu, ou) ((nI m), ex, (nI c), go, kd, (ux_LN kd ns), wo, (ux_EN en), np, st, qp, sp, pn, pg, rg, (ux_ED ds), pc, fi, ow, po, pl, pw, qu, ou) := by
  by_cases hz : rg (p * 4 + a) = 0
  · exact ux_G1 (r := 1) (go := go) (sp := upd sp p (pg (p * 20 + s) >>> ((9 : Int32) &&& 31))) (ex := ex + 1) (kd := kd) (ns := ns) (np := np) (wo := wo) (en := en) (st := st) (pp := pp) (pc := pc) (pg := pg) (pn := pn) (rg := rg) (ds := ds) (fi := fi) (ow := ow) (po := po) (pw := pw) (pl := pl) (qu := qu) (ou := ou) (qp := qp) (m := m) (c := c) (fun _ h => xj_7z H hz (by rw [ux_uu]; exact x634a H.1 hs (by decide) h)) (fun _ h => yj_7z H hz h) (ux_J_mono hJ (by omega)) hN (Or.inr ⟨rfl, hs⟩)
  · exact ux_G1 (go := 1) (fun _ h => xj_7n H hz (x634a H.1 hs (by decide) h)) (fun _ h => yj_7n H hz (y262a H.1 rfl (by decide) h)) (ux_J_mono hJ (by omega)) hN (Or.inr ⟨rfl, hs⟩)
theorem op_9 (hJ : ux_J B kd ns np en ds fi ow po st pp qp pc pn pl qu m c) (hN : ux_N qu m p) (hs : st p = 1) (H : ux_in sp pn pg p s l a b 9) : ux_G (B + 1) p (nI m, nI c, ex + 1, kd, ns, np, wo, en, st, pp, sp, pc, pg, pn, rg, ds, fi, ow, po, pw, pl, qu, ou) ((nI m), ex, (nI c), go, kd, (ux_LN kd ns), wo, (ux_EN en), np, st, qp, sp, pn, pg, rg, (ux_ED ds), pc, fi, ow, po, pl, pw, qu, ou) := by
  by_cases hz : rg (p * 4 + a) = 0
  · exact ux_G1 (go := 1) (fun _ h => xj_9z H hz (x634a H.1 hs (by decide) h)) (fun _ h => yj_9z H hz (y262a H.1 rfl (by decide) h)) (ux_J_mono hJ (by omega)) hN (Or.inr ⟨rfl, hs⟩)
  · exact ux_G1 (r := 1) (go := go) (sp := upd sp p (pg (p * 20 + s) >>> ((9 : Int32) &&& 31))) (ex := ex + 1) (kd := kd) (ns := ns) (np := np) (wo := wo) (en := en) (st := st) (pp := pp) (pc := pc) (pg := pg) (pn := pn) (rg := rg) (ds := ds) (fi := fi) (ow := ow) (po := po) (pw := pw) (pl := pl) (qu := qu) (ou := ou) (qp := qp) (m := m) (c := c) (fun _ h => xj_9n H hz (by rw [ux_uu]; exact x634a H.1 hs (by decide) h)) (fun _ h => yj_9n H hz h) (ux_J_mono hJ (by omega)) hN (Or.inr ⟨rfl, hs⟩)
theorem op_24 (hJ : ux_J B kd ns np en ds fi ow po st pp qp pc pn pl qu m c) (hN : ux_N qu m p) (hs : st p = 1) (H : ux_in sp pn pg p s l a b 24) (hB : B < 1000000) : ux_G (B + 1) p (nI m, nI c, ex + 1, kd, ns, np, wo, en, st, pp, sp, pc, pg, pn, rg, ds, fi, ow, po, pw, pl, qu, ou) ((nI m), ex, (nI c), go, kd, (ux_LN kd ns), wo, (ux_EN en), np, st, qp, sp, pn, pg, rg, (ux_ED ds), pc, fi, ow, po, pl, pw, qu, ou) := by
  have hc : c ≤ B := hJ.2.2.2.2.2.2.2.2
  by_cases h32 : c < 32
  · refine ux_G1 (r := 1) (go := 1) (m := m) (c := c + 1) (ou := upd ou c (rg (p * 4 + a))) (sp := upd sp p (sp p + 1)) (ex := ex + 1) (kd := kd) (ns := ns) (np := np) (wo := wo) (en := en) (st := st) (pp := pp) (pc := pc) (pg := pg) (pn := pn) (rg := rg) (ds := ds) (fi := fi) (ow := ow) (po := po) (pw := pw) (pl := pl) (qu := qu) (qp := qp) (fun _ h => xj_24 H (fun Q hQ => br_f (nI_pos (by omega)) (br_f (nI_ge (b := 32) h32 (by decide)) ⟨vp_in_nI h32 (by decide), ?_⟩))) (fun _ h => yj_24 H (fun Q hQ => br_f (nI_ge (b := 32) h32 (by decide)) ⟨vp_in_nI h32 (by decide), ?_⟩)) (ux_J_out hJ) hN (Or.inr ⟨rfl, hs⟩)
    · rw [ux_c (by omega)]
      exact nm_e (nm_r (nI_1 c) (hQ _ (x634a H.1 hs (by decide) h)))
    · rw [ux_c (by omega)]
      exact nm_e (nm_r (nI_1 c) (hQ _ (y262a H.1 rfl (by decide) h)))
  · have h3 : (32 : Int32) ≤ nI c := nI_le (a := 32) (by omega) (by omega)
    exact ux_G1 (r := 1) (go := 1) (m := m) (c := c + 1) (sp := upd sp p (sp p + 1)) (ex := ex + 1) (kd := kd) (ns := ns) (np := np) (wo := wo) (en := en) (st := st) (pp := pp) (pc := pc) (pg := pg) (pn := pn) (rg := rg) (ds := ds) (fi := fi) (ow := ow) (po := po) (pw := pw) (pl := pl) (qu := qu) (ou := ou) (qp := qp) (fun _ h => xj_24 H (fun Q hQ => br_f (nI_pos (by omega)) (br_t h3 (nm_r (nI_1 c) (hQ _ (x634a H.1 hs (by decide) h)))))) (fun _ h => yj_24 H (fun Q hQ => br_t h3 (nm_r (nI_1 c) (hQ _ (y262a H.1 rfl (by decide) h))))) (ux_J_out hJ) hN (Or.inr ⟨rfl, hs⟩)
theorem op_27 (hJ : ux_J B kd ns np en ds fi ow po st pp qp pc pn pl qu m c) (hN : ux_N qu m p) (hs : st p = 1) (H : ux_in sp pn pg p s l a b 27) : ux_G (B + 1) p (nI m, nI c, ex + 1, kd, ns, np, wo, en, st, pp, sp, pc, pg, pn, rg, ds, fi, ow, po, pw, pl, qu, ou) ((nI m), ex, (nI c), go, kd, (ux_LN kd ns), wo, (ux_EN en), np, st, qp, sp, pn, pg, rg, (ux_ED ds), pc, fi, ow, po, pl, pw, qu, ou) := by
  obtain ⟨hF, hD, hO, hZ, hR, _⟩ := id hJ
  obtain ⟨⟨d, hd, ed, hd2⟩, _⟩ := (hR p H.1).2.2 (Or.inl hs)
  have cl : (nI p).toNatClampNeg = p := ux_c (by have := H.1; omega)
  have iv : vp_in (nI p) 5 := vp_in_nI H.1 (by decide)
  rcases ux_noye hF.2.1 hd (rg (p * 4 + a)) with hno | ⟨q, n, hye, hk0, _⟩
  · refine ux_G1 (r := 1) (go := 1) (rg := upd rg (p * 4 + a) (-1)) (sp := upd sp p (sp p + 1)) (ex := ex + 1) (kd := kd) (ns := ns) (np := np) (wo := wo) (en := en) (st := st) (pp := pp) (pc := pc) (pg := pg) (pn := pn) (ds := ds) (fi := fi) (ow := ow) (po := po) (pw := pw) (pl := pl) (qu := qu) (ou := ou) (qp := qp) (m := m) (c := c) (fun _ h => xj_27 H (fun Q hQ => ?_)) (fun _ h => yj_27 H ed (fun Q hQ => ya_nmN hd hno (hQ _ (fun Q2 hQ2 => br_f (by decide) (hQ2 _ (y262a H.1 rfl (by decide) h)))))) (ux_J_mono hJ (by omega)) hN (Or.inr ⟨rfl, hs⟩)
    unfold wpX_sizeNamed
    dsimp only
    rw [cl, ed]
    exact ⟨iv, xa_nnN hd hno (br_t rfl (hQ _ (x634a H.1 hs (by decide) h)))⟩
  · have hn := hye.2.2.2.1
    have hn0 := hye.2.2.1
    have cn : (nI n).toNatClampNeg = n := ux_c (by omega)
    have ivn : vp_in (nI n) 10 := vp_in_nI hn (by decide)
    refine ux_G1 (r := 1) (go := 1) (rg := upd rg (p * 4 + a) (ns n)) (sp := upd sp p (sp p + 1)) (ex := ex + 1) (kd := kd) (ns := ns) (np := np) (wo := wo) (en := en) (st := st) (pp := pp) (pc := pc) (pg := pg) (pn := pn) (ds := ds) (fi := fi) (ow := ow) (po := po) (pw := pw) (pl := pl) (qu := qu) (ou := ou) (qp := qp) (m := m) (c := c) (fun _ h => xj_27 H (fun Q hQ => ?_)) (fun _ h => yj_27 H ed (fun Q hQ => ya_nmY hd hye (hQ _ (fun Q2 hQ2 => br_t (nI_pos' (by omega)) ⟨ivn, ?_⟩)))) (ux_J_mono hJ (by omega)) hN (Or.inr ⟨rfl, hs⟩)
    · unfold wpX_sizeNamed
      dsimp only
      rw [cl, ed]
      refine ⟨iv, xa_nnY hd hye (br_f (ux_nz hn0 (by omega)) ⟨ivn, ?_⟩)⟩
      rw [cn]
      exact hQ _ (x634a H.1 hs (by decide) h)
    · rw [cn]
      by_cases h1 : kd n = 1
      · refine br_t h1 ⟨ivn, hQ2 _ ?_⟩
        rw [ux_LN_f (by rw [h1]; exact ux_n12)]
        exact y262a H.1 rfl (by decide) h
      · have h2 : kd n = 2 := by
          rcases hF.1.2 n hn with z | z | z
          · exact absurd z hk0
          · exact absurd z h1
          · exact z
        refine br_f h1 (ya_eo hF.2.1 hn (hQ2 _ ?_))
        rw [← ((hF.2.2.2.2 n hn).1 h2).1]
        exact y262a H.1 rfl (by decide) h
theorem op_12 (hJ : ux_J B kd ns np en ds fi ow po st pp qp pc pn pl qu m c) (hN : ux_N qu m p) (hs : st p = 1) (H : ux_in sp pn pg p s l a b 12) : ux_G (B + 1) p (nI m, nI c, ex + 1, kd, ns, np, wo, en, st, pp, sp, pc, pg, pn, rg, ds, fi, ow, po, pw, pl, qu, ou) ((nI m), ex, (nI c), go, kd, (ux_LN kd ns), wo, (ux_EN en), np, st, qp, sp, pn, pg, rg, (ux_ED ds), pc, fi, ow, po, pl, pw, qu, ou) := by
  obtain ⟨hF, hD, hO, hZ, hR, _⟩ := id hJ
  obtain ⟨⟨d, hd, ed, hd2⟩, _⟩ := (hR p H.1).2.2 (Or.inl hs)
  have cl : (nI p).toNatClampNeg = p := ux_c (by have := H.1; omega)
  have iv : vp_in (nI p) 5 := vp_in_nI H.1 (by decide)
  have c3 : (nI (p * 4 + 3)).toNatClampNeg = p * 4 + 3 := ux_c (by have := H.1; omega)
  have v3 : vp_in (nI (p * 4 + 3)) 20 := vp_in_nI (by have := H.1; omega) (by decide)
  have e34 : nI p * 4 + 3 = nI (p * 4 + 3) := by rw [ux_mul_l, ux_add_l]
  rcases ux_noye hF.2.1 hd (rg (p * 4 + a)) with hno | ⟨q, n, hye, hk0, _⟩
  · refine ux_G1 (r := 1) (go := 1) (rg := upd rg (p * 4 + 3) (-1)) (sp := upd sp p (sp p + 1)) (ex := ex + 1) (kd := kd) (ns := ns) (np := np) (wo := wo) (en := en) (st := st) (pp := pp) (pc := pc) (pg := pg) (pn := pn) (ds := ds) (fi := fi) (ow := ow) (po := po) (pw := pw) (pl := pl) (qu := qu) (ou := ou) (qp := qp) (m := m) (c := c) (fun _ h => xj_12 H (fun Q hQ => ?_)) (fun _ h => yj_12n H ed hd hno (y262a H.1 rfl (by decide) h)) (ux_J_mono hJ (by omega)) hN (Or.inr ⟨rfl, hs⟩)
    unfold wpX_executeFile
    dsimp only
    rw [cl, ed]
    refine ⟨iv, xa_fnN hd hno hF.1.1 (br_t rfl ?_)⟩
    unfold wpX_fail
    dsimp only
    rw [e34, c3]
    exact ⟨v3, nm_e (hQ _ (x634a H.1 hs (by decide) h))⟩
  · have hn := hye.2.2.2.1
    have hn0 := hye.2.2.1
    by_cases h1 : kd n = 1
    · obtain ⟨q2, hq2, eq2⟩ := (hF.2.2.2.2 n hn).2 h1
      refine ux_G1 (r := 1) (go := go) (pg := ux_cw pg wo (p * 20) (n * 20) 20) (pn := upd pn p (ns n)) (sp := upd sp p 0) (ex := ex + 1) (kd := kd) (ns := ns) (np := np) (wo := wo) (en := en) (st := st) (pp := pp) (pc := pc) (rg := rg) (ds := ds) (fi := fi) (ow := ow) (po := po) (pw := pw) (pl := pl) (qu := qu) (ou := ou) (qp := qp) (m := m) (c := c) (fun _ h => xj_12 H (fun Q hQ => ?_)) (fun _ h => yj_12y H ed hd hye h1 ?_) ?_ hN (Or.inr ⟨rfl, hs⟩)
      · unfold wpX_executeFile
        dsimp only
        rw [cl, ed]
        refine ⟨iv, xa_fnY hd hye h1 (br_f (ux_nz hn0 (by omega)) (xa_ld H.1 hn (hQ _ ?_)))⟩
        rw [ux_uu]
        exact x634a H.1 hs (by decide) h
      · rw [ux_LN_f (by rw [h1]; exact ux_n12)]
        exact h
      · rw [eq2]
        exact ux_J_mono (ux_J_pn hJ hq2) (by omega)
    · refine ux_G1 (r := 1) (go := 1) (rg := upd rg (p * 4 + 3) (-1)) (sp := upd sp p (sp p + 1)) (ex := ex + 1) (kd := kd) (ns := ns) (np := np) (wo := wo) (en := en) (st := st) (pp := pp) (pc := pc) (pg := pg) (pn := pn) (ds := ds) (fi := fi) (ow := ow) (po := po) (pw := pw) (pl := pl) (qu := qu) (ou := ou) (qp := qp) (m := m) (c := c) (fun _ h => xj_12 H (fun Q hQ => ?_)) (fun _ h => yj_12d H ed hd hye h1 (y262a H.1 rfl (by decide) h)) (ux_J_mono hJ (by omega)) hN (Or.inr ⟨rfl, hs⟩)
      unfold wpX_executeFile
      dsimp only
      rw [cl, ed]
      refine ⟨iv, xa_fnD hd hye h1 (br_t rfl ?_)⟩
      unfold wpX_fail
      dsimp only
      rw [e34, c3]
      exact ⟨v3, nm_e (hQ _ (x634a H.1 hs (by decide) h))⟩
theorem op_11 (hJ : ux_J B kd ns np en ds fi ow po st pp qp pc pn pl qu m c) (hN : ux_N qu m p) (hs : st p = 1) (H : ux_in sp pn pg p s l a b 11) : ux_G (B + 1) p (nI m, nI c, ex + 1, kd, ns, np, wo, en, st, pp, sp, pc, pg, pn, rg, ds, fi, ow, po, pw, pl, qu, ou) ((nI m), ex, (nI c), go, kd, (ux_LN kd ns), wo, (ux_EN en), np, st, qp, sp, pn, pg, rg, (ux_ED ds), pc, fi, ow, po, pl, pw, qu, ou) := by
  obtain ⟨hF, hD, hO, hZ, hR, _⟩ := id hJ
  obtain ⟨hp, hi, ho, ha, ea, hb, eb⟩ := id H
  have hq : ∀ j, j < 5 → st j ≠ 0 → pp j = qp j := fun j h1 h2 => ((hR j h1).2.1 h2).1
  have ca : (nI (p * 4 + a)).toNatClampNeg = p * 4 + a := ux_c (by omega)
  have cb : (nI (p * 4 + b)).toNatClampNeg = p * 4 + b := ux_c (by omega)
  have va : vp_in (nI (p * 4 + a)) 20 := vp_in_nI (by omega) (by decide)
  have vb : vp_in (nI (p * 4 + b)) 20 := vp_in_nI (by omega) (by decide)
  have e4 : 4 * nI p + nI a = nI (p * 4 + a) := by rw [ux_l_mul, nI_add, Nat.mul_comm]
  have f4 : 4 * nI p + nI b = nI (p * 4 + b) := by rw [ux_l_mul, nI_add, Nat.mul_comm]
  rcases ux_ls (fun c => st c = 3 ∧ pp c = nI p) 5 with ⟨k, hk, ⟨k3, kp⟩, hj⟩ | hno
  · have hkp : k ≠ p := by
      intro z; rw [z, hs] at k3; exact absurd k3 (by decide)
    have ck : (nI k).toNatClampNeg = k := ux_c (by omega)
    have vk : vp_in (nI k) 5 := vp_in_nI hk (by decide)
    refine ux_G1 (r := 1) (go := 1) (rg := upd (upd rg (p * 4 + a) (sp k)) (p * 4 + b) (nI k)) (st := upd st k 0) (sp := upd sp p (sp p + 1)) (ex := ex + 1) (kd := kd) (ns := ns) (np := np) (wo := wo) (en := en) (pp := pp) (pc := pc) (pg := pg) (pn := pn) (ds := ds) (fi := fi) (ow := ow) (po := po) (pw := pw) (pl := pl) (qu := qu) (ou := ou) (qp := qp) (m := m) (c := c) (fun _ h => xj_11 H (fun Q hQ => ?_)) (fun _ h => yj_11 H (fun Q hQ => ?_)) (ux_J_mono (ux_J_free hJ hk k3) (by omega)) hN (Or.inr ⟨rfl, by rw [ux_un (Ne.symm hkp)]; exact hs⟩)
    · unfold wpX_takeEndedChild
      refine xa_ec1 hk k3 kp hj (br_t (nI_pos' (by omega)) ⟨vk, va, ?_⟩)
      rw [ca, cb, ck, ux_un hkp]
      exact nm_e ⟨vb, nm_e ⟨vk, nm_e (hQ _ (x634a hp (by rw [ux_un (Ne.symm hkp)]; exact hs) (by decide) h))⟩⟩
    · unfold wpY_await
      refine ya_ec hp ?_
      rw [ux_ec_e 5 (by omega) k (by omega) hk k3 (by rw [← hq k hk (by rw [k3]; decide)]; exact kp) (fun j _ h2 h3 => hj j h2 ⟨h3.1, by rw [hq j (by omega) (by rw [h3.1]; decide)]; exact h3.2⟩)]
      refine br_t (nI_pos' (by omega)) ⟨vk, ?_⟩
      rw [e4, f4, ca, cb, ck]
      exact ⟨va, nm_e ⟨vb, nm_e ⟨vk, nm_e (hQ _ (y262a hp rfl (by decide) h))⟩⟩⟩
  · refine ux_G1 (r := 1) (go := 1) (rg := upd rg (p * 4 + a) (-1)) (sp := upd sp p (sp p + 1)) (ex := ex + 1) (kd := kd) (ns := ns) (np := np) (wo := wo) (en := en) (st := st) (pp := pp) (pc := pc) (pg := pg) (pn := pn) (ds := ds) (fi := fi) (ow := ow) (po := po) (pw := pw) (pl := pl) (qu := qu) (ou := ou) (qp := qp) (m := m) (c := c) (fun _ h => xj_11 H (fun Q hQ => ?_)) (fun _ h => yj_11 H (fun Q hQ => ?_)) (ux_J_mono hJ (by omega)) hN (Or.inr ⟨rfl, hs⟩)
    · unfold wpX_takeEndedChild
      refine xa_ec0 hno (br_f (by decide) ⟨va, ?_⟩)
      rw [ca]
      exact nm_e (hQ _ (x634a hp hs (by decide) h))
    · have hlt : ¬ 0 ≤ ux_ec st qp p 5 := by
        rcases ux_ls (fun c => st c ≠ 0 ∧ pp c = nI p) 5 with ⟨k, hk, ⟨k3, kp⟩, hj⟩ | hnc
        · rw [ux_ec_l 5 (by omega) (fun j _ h2 h3 h4 h5 => hno j h2 ⟨h5, by rw [hq j h2 h3]; exact h4⟩) ⟨k, by omega, hk, k3, by rw [← hq k hk k3]; exact kp⟩]
          decide
        · rw [ux_ec_n 5 (by omega) (fun j _ h2 h3 => hnc j h2 ⟨h3.1, by rw [hq j h2 h3.1]; exact h3.2⟩)]
          decide
      unfold wpY_await
      refine ya_ec hp (br_f hlt ?_)
      rw [e4, ca]
      exact ⟨va, nm_e (hQ _ (y262a hp rfl (by decide) h))⟩
end UX17
end
section
section UX18A
variable {ql pr : Int32} {ex : Int64} {kd ns np wo en st pp sp pc pg pn rg ds fi ow po pw pl qu ou : Nat → Int32}
variable {post : SX → Prop} {p n k q : Nat} {x : Int32}
theorem xa_fail (hp : p < 5) (h : post (ql, pr, ex, kd, ns, np, wo, en, st, pp, sp, pc, pg, pn, upd rg (p * 4 + 3) (-1), ds, fi, ow, po, pw, pl, qu, ou)) : wpX_fail post (ql, pr, ex, kd, ns, np, wo, en, st, pp, sp, pc, pg, pn, rg, ds, fi, ow, po, pw, pl, qu, ou) (nI p) := by
  unfold wpX_fail
  dsimp only
  rw [show nI p * 4 + 3 = nI (p * 4 + 3) by rw [ux_mul_l, ux_add_l], ux_c (n := p * 4 + 3) (by omega)]
  exact ⟨vp_in_nI (by omega) (by decide), nm_e h⟩
def ux_sr (pw : Nat → Int32) (k : Nat) : Nat → (Nat → Int32)
  | 0 => pw
  | i + 1 => upd (ux_sr pw k i) (k * 4 + i) (ux_sr pw k i (k * 4 + i + 1))
theorem xs_rp (hk : k < 2) (h : post (ql, pr, ex, kd, ns, np, wo, en, st, pp, sp, pc, pg, pn, rg, ds, fi, ow, po, ux_sr pw k 3, upd pl k (pl k - 1), qu, ou)) : ∀ r i, i + r = 3 → wX_readPipe_49 post (nI k) ql pr ex (r + 1) (nI (i + 1)) kd ns np wo en st pp sp pc pg pn rg ds fi ow po (ux_sr pw k i) pl qu ou := by
  intro r
  induction r with
  | zero =>
    intro i hi
    have ei : i = 3 := by omega
    subst ei
    refine br_t (by decide) ⟨vp_in_nI hk (by decide), vp_in_nI hk (by decide), ?_⟩
    rw [ux_c (n := k) (by omega)]
    exact nm_e h
  | succ r ih =>
    intro i hi
    have H : wX_readPipe_49 post (nI k) ql pr ex (r + 1) (nI (i + 1 + 1)) kd ns np wo en st pp sp pc pg pn rg ds fi ow po (upd (ux_sr pw k i) (k * 4 + i) (ux_sr pw k i (k * 4 + i + 1))) pl qu ou := ih (i + 1) (by omega)
    have e : nI k * 4 + nI (i + 1) = nI (k * 4 + i + 1) := by rw [ux_mul_l, nI_add, Nat.add_assoc]
    refine br_f (nI_ge (b := 4) (by omega) (by decide)) ?_
    rw [e, nI_pred, ux_c (n := k * 4 + i) (by omega), ux_c (n := k * 4 + i + 1) (by omega)]
    exact ⟨vp_in_nI (by omega) (by decide), vp_in_nI (by omega) (by decide), nm_e (nm_r (nI_1 _) H)⟩
end UX18A
section UX18B
variable {ql pr go : Int32} {ex : Int64} {kd ns le wo en et np st qp sp pn pg rg ee ds pc fi ow po pl pw qu ou : Nat → Int32}
variable {post : SY → Prop} {p n k q : Nat} {x : Int32}
theorem ya_fail (hp : p < 5) (h : post (ql, ex, pr, go, kd, le, wo, et, np, st, qp, sp, pn, pg, upd rg (p * 4 + 3) (-1), ee, pc, fi, ow, po, pl, pw, qu, ou)) : wpY_fail post (ql, ex, pr, go, kd, le, wo, et, np, st, qp, sp, pn, pg, rg, ee, pc, fi, ow, po, pl, pw, qu, ou) (nI p) := by
  unfold wpY_fail
  dsimp only
  rw [show 4 * nI p + 3 = nI (p * 4 + 3) by rw [ux_l_mul, ux_add_l, Nat.mul_comm], ux_c (n := p * 4 + 3) (by omega)]
  exact ⟨vp_in_nI (by omega) (by decide), nm_e h⟩
theorem ya_done (hp : p < 5) (h : post (ql, ex, pr, go, kd, le, wo, et, np, st, qp, sp, pn, pg, upd rg (p * 4 + 3) 1, ee, pc, fi, ow, po, pl, pw, qu, ou)) : wpY_done post (ql, ex, pr, go, kd, le, wo, et, np, st, qp, sp, pn, pg, rg, ee, pc, fi, ow, po, pl, pw, qu, ou) (nI p) := by
  unfold wpY_done
  dsimp only
  rw [show 4 * nI p + 3 = nI (p * 4 + 3) by rw [ux_l_mul, ux_add_l, Nat.mul_comm], ux_c (n := p * 4 + 3) (by omega)]
  exact ⟨vp_in_nI (by omega) (by decide), nm_e h⟩
theorem ys_rp (hk : k < 2) (h : post (ql, ex, pr, go, kd, le, wo, et, np, st, qp, sp, pn, pg, rg, ee, pc, fi, ow, po, upd pl k (pl k - 1), ux_sr pw k 3, qu, ou)) : ∀ r i, i + r = 3 → wY_readPipe_49 post (nI k) ql ex pr go (r + 1) (nI (k * 4 + i)) kd le wo et np st qp sp pn pg rg ee pc fi ow po pl (ux_sr pw k i) qu ou := by
  have e : 4 * nI k + 3 = nI (k * 4 + 3) := by rw [ux_l_mul, ux_add_l, Nat.mul_comm]
  intro r
  induction r with
  | zero =>
    intro i hi
    have ei : i = 3 := by omega
    subst ei
    refine br_t (by rw [e]; exact nI_le (Nat.le_refl _) (by omega)) ⟨vp_in_nI hk (by decide), vp_in_nI hk (by decide), ?_⟩
    rw [ux_c (n := k) (by omega)]
    exact nm_e h
  | succ r ih =>
    intro i hi
    have H : wY_readPipe_49 post (nI k) ql ex pr go (r + 1) (nI (k * 4 + i + 1)) kd le wo et np st qp sp pn pg rg ee pc fi ow po pl (upd (ux_sr pw k i) (k * 4 + i) (ux_sr pw k i (k * 4 + i + 1))) qu ou := ih (i + 1) (by omega)
    refine br_f (by rw [e]; exact nI_ge (by omega) (by omega)) ?_
    rw [nI_1, ux_c (n := k * 4 + i) (by omega), ux_c (n := k * 4 + i + 1) (by omega)]
    exact ⟨vp_in_nI (by omega) (by decide), vp_in_nI (by omega) (by decide), nm_e (nm_e H)⟩
end UX18B
section UX18
variable {ql pr : Int32} {ex : Int64} {kd ns np wo en st pp sp pc pg pn rg ds fi ow po pw pl qu ou : Nat → Int32}
variable {qp : Nat → Int32} {go : Int32} {B p s l a b m c : Nat}
theorem ux_m1p {t : Nat} (h : 0 < t) : nI t - 1 = nI (t - 1) := by
  obtain ⟨q, rfl⟩ : ∃ q, t = q + 1 := ⟨t - 1, by omega⟩
  exact nI_pred q
theorem op_14 (hJ : ux_J B kd ns np en ds fi ow po st pp qp pc pn pl qu m c) (hN : ux_N qu m p) (hs : st p = 1) (H : ux_in sp pn pg p s l a b 14) : ux_G (B + 1) p (nI m, nI c, ex + 1, kd, ns, np, wo, en, st, pp, sp, pc, pg, pn, rg, ds, fi, ow, po, pw, pl, qu, ou) ((nI m), ex, (nI c), go, kd, (ux_LN kd ns), wo, (ux_EN en), np, st, qp, sp, pn, pg, rg, (ux_ED ds), pc, fi, ow, po, pl, pw, qu, ou) := by
  obtain ⟨hF, hD, hO, hZ, hR, hU, hI, hL, hB⟩ := id hJ
  obtain ⟨hp, hi, ho, ha, ea, hb, eb⟩ := id H
  have cl : (nI p).toNatClampNeg = p := ux_c (by omega)
  have iv : vp_in (nI p) 5 := vp_in_nI hp (by decide)
  have ca : (nI (p * 4 + a)).toNatClampNeg = p * 4 + a := ux_c (by omega)
  have cb : (nI (p * 4 + b)).toNatClampNeg = p * 4 + b := ux_c (by omega)
  have c3 : (nI (p * 4 + 3)).toNatClampNeg = p * 4 + 3 := ux_c (by omega)
  have va : vp_in (nI (p * 4 + a)) 20 := vp_in_nI (by omega) (by decide)
  have vb : vp_in (nI (p * 4 + b)) 20 := vp_in_nI (by omega) (by decide)
  have v3 : vp_in (nI (p * 4 + 3)) 20 := vp_in_nI (by omega) (by decide)
  have e4 : 4 * nI p + nI a = nI (p * 4 + a) := by rw [ux_l_mul, nI_add, Nat.mul_comm]
  have f4 : 4 * nI p + nI b = nI (p * 4 + b) := by rw [ux_l_mul, nI_add, Nat.mul_comm]
  have x3 : nI p * 4 + 3 = nI (p * 4 + 3) := by rw [ux_mul_l, ux_add_l]
  have y3 : 4 * nI p + 3 = nI (p * 4 + 3) := by rw [ux_l_mul, ux_add_l, Nat.mul_comm]
  obtain ⟨w, hv, hV⟩ := ux_hvE hD hp (rg (p * 4 + b))
  by_cases hw : w = 0
  · subst hw
    refine ux_G1 (r := 1) (go := 1) (rg := upd rg (p * 4 + 3) (-1)) (sp := upd sp p (sp p + 1)) (ex := ex + 1) (kd := kd) (ns := ns) (np := np) (wo := wo) (en := en) (st := st) (pp := pp) (pc := pc) (pg := pg) (pn := pn) (ds := ds) (fi := fi) (ow := ow) (po := po) (pw := pw) (pl := pl) (qu := qu) (ou := ou) (qp := qp) (m := m) (c := c) (fun _ h => xj_14 H (fun Q hQ => ?_)) (fun _ h => yj_14 H (fun Q hQ => ?_)) (ux_J_mono hJ (by omega)) hN (Or.inr ⟨rfl, hs⟩)
    · unfold wpX_close
      exact xa_ha hp hv (br_t rfl (hQ _ _ (x634a hp hs (by decide) h)))
    · unfold wpY_close
      refine ya_eO hp hb hv ?_
      rw [ux_cv0]
      exact br_t rfl (ya_fail hp (hQ _ (y262a hp rfl (by decide) h)))
  · rcases hv with ⟨d, hd, e1, e2⟩ | ⟨_, e2⟩
    · have hv : ux_hv ds p (rg (p * 4 + b)) w := Or.inl ⟨d, hd, e1, e2⟩
      have xd : nI p * 4 + nI d = nI (p * 4 + d) := by rw [ux_mul_l, nI_add]
      have yd : 4 * nI p + nI d = nI (p * 4 + d) := by rw [ux_l_mul, nI_add, Nat.mul_comm]
      have cd : (nI (p * 4 + d)).toNatClampNeg = p * 4 + d := ux_c (by omega)
      have vd : vp_in (nI (p * 4 + d)) 20 := vp_in_nI (by omega) (by decide)
      refine ux_G2 (r := 1) (go := 1) (ds := upd ds (p * 4 + d) 0) (rg := upd rg (p * 4 + 3) 1) (sp := upd sp p (sp p + 1)) (ex := ex + 1) (kd := kd) (ns := ns) (np := np) (wo := wo) (en := en) (st := st) (pp := pp) (pc := pc) (pg := pg) (pn := pn) (fi := fi) (ow := ow) (po := po) (pw := pw) (pl := pl) (qu := qu) (ou := ou) (qp := qp) (m := m) (c := c) (fun _ h => xj_14 H (fun Q hQ => ?_)) (fun _ h => yj_14 H (fun Q hQ => ?_)) (ux_D_upd hD (Or.inl rfl)) (ux_J_mono (ux_J_close hJ hs hd) (by omega)) hN (Or.inr ⟨rfl, hs⟩)
      · unfold wpX_close
        refine xa_ha hp hv (br_f hw ?_)
        rw [e1, xd, cd]
        exact ⟨vd, nm_e (hQ _ _ (x634a hp hs (by decide) h))⟩
      · rw [ux_LN_ck] at h
        unfold wpY_close
        refine ya_eO hp hb hv (br_f (fun z => hw ((ux_cv_0 hV).mp z)) ?_)
        rw [f4, cb, e1, yd, cd]
        refine ⟨vb, vd, nm_r (e' := ux_ED (upd ds (p * 4 + d) 0)) (by rw [ux_ED_u, ux_cv0]) (ya_cl hF.1 hF.2.1 (ux_D_upd hD (Or.inl rfl)) (ya_done hp (hQ _ (y262a hp rfl (by decide) h))))⟩
    · exact absurd e2 hw
theorem op_18 (hJ : ux_J B kd ns np en ds fi ow po st pp qp pc pn pl qu m c) (hN : ux_N qu m p) (hs : st p = 1) (H : ux_in sp pn pg p s l a b 18) : ux_G (B + 1) p (nI m, nI c, ex + 1, kd, ns, np, wo, en, st, pp, sp, pc, pg, pn, rg, ds, fi, ow, po, pw, pl, qu, ou) ((nI m), ex, (nI c), go, kd, (ux_LN kd ns), wo, (ux_EN en), np, st, qp, sp, pn, pg, rg, (ux_ED ds), pc, fi, ow, po, pl, pw, qu, ou) := by
  obtain ⟨hF, hD, hO, hZ, hR, hU, hI, hL, hB⟩ := id hJ
  obtain ⟨hp, hi, ho, ha, ea, hb, eb⟩ := id H
  have cl : (nI p).toNatClampNeg = p := ux_c (by omega)
  have iv : vp_in (nI p) 5 := vp_in_nI hp (by decide)
  have ca : (nI (p * 4 + a)).toNatClampNeg = p * 4 + a := ux_c (by omega)
  have cb : (nI (p * 4 + b)).toNatClampNeg = p * 4 + b := ux_c (by omega)
  have c3 : (nI (p * 4 + 3)).toNatClampNeg = p * 4 + 3 := ux_c (by omega)
  have va : vp_in (nI (p * 4 + a)) 20 := vp_in_nI (by omega) (by decide)
  have vb : vp_in (nI (p * 4 + b)) 20 := vp_in_nI (by omega) (by decide)
  have v3 : vp_in (nI (p * 4 + 3)) 20 := vp_in_nI (by omega) (by decide)
  have e4 : 4 * nI p + nI a = nI (p * 4 + a) := by rw [ux_l_mul, nI_add, Nat.mul_comm]
  have f4 : 4 * nI p + nI b = nI (p * 4 + b) := by rw [ux_l_mul, nI_add, Nat.mul_comm]
  have x3 : nI p * 4 + 3 = nI (p * 4 + 3) := by rw [ux_mul_l, ux_add_l]
  have y3 : 4 * nI p + 3 = nI (p * 4 + 3) := by rw [ux_l_mul, ux_add_l, Nat.mul_comm]
  obtain ⟨w, hv, hV⟩ := ux_hvE hD hp (rg (p * 4 + b))
  have hf : (∀ f : Nat, True) → (w = 0 ∨ ux_nf ds p 0) → ux_G (B + 1) p (nI m, nI c, ex + 1, kd, ns, np, wo, en, st, pp, sp, pc, pg, pn, rg, ds, fi, ow, po, pw, pl, qu, ou) ((nI m), ex, (nI c), go, kd, (ux_LN kd ns), wo, (ux_EN en), np, st, qp, sp, pn, pg, rg, (ux_ED ds), pc, fi, ow, po, pl, pw, qu, ou) := by
    intro _ hor
    refine ux_G1 (r := 1) (go := 1) (rg := upd rg (p * 4 + 3) (-1)) (sp := upd sp p (sp p + 1)) (ex := ex + 1) (kd := kd) (ns := ns) (np := np) (wo := wo) (en := en) (st := st) (pp := pp) (pc := pc) (pg := pg) (pn := pn) (ds := ds) (fi := fi) (ow := ow) (po := po) (pw := pw) (pl := pl) (qu := qu) (ou := ou) (qp := qp) (m := m) (c := c) (fun _ h => xj_18 H (fun Q hQ => ?_)) (fun _ h => yj_18 H (fun Q hQ => ?_)) (ux_J_mono hJ (by omega)) hN (Or.inr ⟨rfl, hs⟩)
    · unfold wpX_copyDescriptor
      dsimp only
      rw [cb]
      refine ⟨vb, xa_ha hp hv ?_⟩
      have hX : wX_copyDescriptor_31 Q (nI p) (nI m) (nI c) (ex + 1) kd ns np wo en st pp (upd sp p (sp p + 1)) pc pg pn rg ds fi ow po pw pl qu ou := xa_fail hp (hQ _ (x634a hp hs (by decide) h))
      rcases ux_fdnf ds p 0 (by omega) with ⟨d, hd⟩ | hd
      · refine xa_nd (a := 0) hp hd ?_
        rcases hor with z | z
        · exact br_t z hX
        · exact absurd hd.2.2.1 (z.2 d (by omega) hd.2.1)
      · refine xa_nd0 (a := 0) hp hd ?_
        by_cases hw : w = 0
        · exact br_t hw hX
        · exact br_f hw (br_f (by decide) hX)
    · unfold wpY_copy
      refine ya_eO hp hb hv ?_
      have hX : wY_copy_26 Q (nI p) (nI m) (ex + 1) (nI c) 1 kd (ux_LN kd ns) wo (ux_EN en) np st qp sp pn pg rg (ux_ED ds) pc fi ow po pl pw qu ou := ya_fail hp (hQ _ (y262a hp rfl (by decide) h))
      rcases ux_fdnf ds p 0 (by omega) with ⟨d, hd⟩ | hd
      · refine ya_nd (a := 0) hD hp hd ?_
        rcases hor with z | z
        · exact br_t (by rw [z, ux_cv0]) hX
        · exact absurd hd.2.2.1 (z.2 d (by omega) hd.2.1)
      · refine ya_nd0 (a := 0) hD hp hd ?_
        by_cases hw : ux_cv w = 0
        · exact br_t hw hX
        · exact br_f hw (br_f (by decide) hX)
  by_cases hw : w = 0
  · exact hf (fun _ => trivial) (Or.inl hw)
  · rcases ux_fdnf ds p 0 (by omega) with ⟨d, hd⟩ | hd
    · rcases hv with ⟨d2, hd2, e1, e2⟩ | ⟨_, e2⟩
      · have hv : ux_hv ds p (rg (p * 4 + b)) w := Or.inl ⟨d2, hd2, e1, e2⟩
        have h4 := hd.2.1
        have xd : nI p * 4 + nI d = nI (p * 4 + d) := by rw [ux_mul_l, nI_add]
        have yd : 4 * nI p + nI d = nI (p * 4 + d) := by rw [ux_l_mul, nI_add, Nat.mul_comm]
        have cd : (nI (p * 4 + d)).toNatClampNeg = p * 4 + d := ux_c (by omega)
        have vd : vp_in (nI (p * 4 + d)) 20 := vp_in_nI (by omega) (by decide)
        refine ux_G1 (r := 1) (go := 1) (ds := upd ds (p * 4 + d) w) (rg := upd rg (p * 4 + a) (nI d)) (sp := upd sp p (sp p + 1)) (ex := ex + 1) (kd := kd) (ns := ns) (np := np) (wo := wo) (en := en) (st := st) (pp := pp) (pc := pc) (pg := pg) (pn := pn) (fi := fi) (ow := ow) (po := po) (pw := pw) (pl := pl) (qu := qu) (ou := ou) (qp := qp) (m := m) (c := c) (fun _ h => xj_18 H (fun Q hQ => ?_)) (fun _ h => yj_18 H (fun Q hQ => ?_)) (by rw [e2]; exact ux_J_mono (ux_J_copy hJ hs h4 hd.2.2.1 (by omega)) (by omega)) hN (Or.inr ⟨rfl, hs⟩)
        · unfold wpX_copyDescriptor
          dsimp only
          rw [cb]
          refine ⟨vb, xa_ha hp hv (xa_nd (a := 0) hp hd (br_f hw (br_t (nI_pos' (by omega)) ?_)))⟩
          rw [xd, cd, ca]
          exact ⟨vd, nm_e ⟨va, nm_e (hQ _ (x634a hp hs (by decide) h))⟩⟩
        · rw [ux_ED_u] at h
          unfold wpY_copy
          refine ya_eO hp hb hv (ya_nd (a := 0) hD hp hd (br_f (fun z => hw ((ux_cv_0 hV).mp z)) (br_t (nI_pos' (by omega)) ?_)))
          rw [yd, cd, e4, ca]
          exact ⟨vd, nm_e ⟨va, nm_e (hQ _ (y262a hp rfl (by decide) h))⟩⟩
      · exact absurd e2 hw
    · exact hf (fun _ => trivial) (Or.inr hd)
end UX18
end
section
section UX19
variable {ql pr : Int32} {ex : Int64} {kd ns np wo en st pp sp pc pg pn rg ds fi ow po pw pl qu ou : Nat → Int32}
variable {qp : Nat → Int32} {go : Int32} {B p s l a b m c : Nat}
theorem ux_k7 : ∀ k, k < 8 → nI k &&& 7 = nI k := by decide +kernel
/-- READ fails -/
theorem op_15f (hJ : ux_J B kd ns np en ds fi ow po st pp qp pc pn pl qu m c) (hN : ux_N qu m p) (hs : st p = 1) (H : ux_in sp pn pg p s l a b 15) {w : Int32} (hv : ux_hv ds p (rg (p * 4 + b)) w)
    (hw : (∃ t, w = nI t ∧ (t < 4096 ∨ 4096 + 2 ≤ t) ∧ t < 100000 ∧ (t < 1 ∨ 9 ≤ t) ∧ ∃ t2, ux_cv w = nI t2 ∧ (t2 < 101 ∨ 102 < t2) ∧ (t2 < 1 ∨ 8 < t2) ∧ t2 < 100000) ∨ (∃ o, o < 8 ∧ w = nI (1 + o) ∧ ow o ≠ 0)) : ux_G (B + 1) p (nI m, nI c, ex + 1, kd, ns, np, wo, en, st, pp, sp, pc, pg, pn, rg, ds, fi, ow, po, pw, pl, qu, ou) ((nI m), ex, (nI c), go, kd, (ux_LN kd ns), wo, (ux_EN en), np, st, qp, sp, pn, pg, rg, (ux_ED ds), pc, fi, ow, po, pl, pw, qu, ou) := by
  obtain ⟨hF, hD, hO, hZ, hR, hU, hI, hL, hB⟩ := id hJ
  obtain ⟨hp, hi, ho, ha, ea, hb, eb⟩ := id H
  have cl : (nI p).toNatClampNeg = p := ux_c (by omega)
  have iv : vp_in (nI p) 5 := vp_in_nI hp (by decide)
  have ca : (nI (p * 4 + a)).toNatClampNeg = p * 4 + a := ux_c (by omega)
  have cb : (nI (p * 4 + b)).toNatClampNeg = p * 4 + b := ux_c (by omega)
  have c3 : (nI (p * 4 + 3)).toNatClampNeg = p * 4 + 3 := ux_c (by omega)
  have va : vp_in (nI (p * 4 + a)) 20 := vp_in_nI (by omega) (by decide)
  have vb : vp_in (nI (p * 4 + b)) 20 := vp_in_nI (by omega) (by decide)
  have v3 : vp_in (nI (p * 4 + 3)) 20 := vp_in_nI (by omega) (by decide)
  have e4 : 4 * nI p + nI a = nI (p * 4 + a) := by rw [ux_l_mul, nI_add, Nat.mul_comm]
  have f4 : 4 * nI p + nI b = nI (p * 4 + b) := by rw [ux_l_mul, nI_add, Nat.mul_comm]
  have x3 : nI p * 4 + 3 = nI (p * 4 + 3) := by rw [ux_mul_l, ux_add_l]
  have y3 : 4 * nI p + 3 = nI (p * 4 + 3) := by rw [ux_l_mul, ux_add_l, Nat.mul_comm]
  refine ux_G1 (r := 1) (go := 1) (rg := upd rg (p * 4 + 3) (-1)) (sp := upd sp p (sp p + 1)) (ex := ex + 1) (kd := kd) (ns := ns) (np := np) (wo := wo) (en := en) (st := st) (pp := pp) (pc := pc) (pg := pg) (pn := pn) (ds := ds) (fi := fi) (ow := ow) (po := po) (pw := pw) (pl := pl) (qu := qu) (ou := ou) (qp := qp) (m := m) (c := c) (fun _ h => xj_15 H (fun Q hQ => ?_)) (fun _ h => yj_15 H (fun Q hQ => ?_)) (ux_J_mono hJ (by omega)) hN (Or.inr ⟨rfl, hs⟩)
  · have hX : wX_read_74 Q (nI p) (nI m) (nI c) (ex + 1) kd ns np wo en st pp (upd sp p (sp p + 1)) pc pg pn rg ds fi ow po pw pl qu ou := xa_fail hp (hQ _ (x634a hp hs (by decide) h))
    unfold wpX_read
    dsimp only
    rw [cb]
    refine ⟨vb, xa_ha hp hv ?_⟩
    rcases hw with ⟨t, e1, h1, h2, h3, _⟩ | ⟨o, ho, e1, h1⟩
    · rw [e1]
      exact xa_pN (e := 4096) h1 h2 (by omega) (br_t (by decide) (xa_io0 h3 h2 (br_t rfl hX)))
    · rw [e1]
      refine xa_pN (e := 4096) (by omega) (by omega) (by omega) (br_t (by decide) (xa_io1 (by omega) (by omega) (br_f (by decide) ?_)))
      rw [ux_so, ux_c (n := o) (by omega)]
      exact ⟨vp_in_nI ho (by decide), br_f h1 hX⟩
  · have hX : wY_read_59 Q (nI p) (nI m) (ex + 1) (nI c) 1 kd (ux_LN kd ns) wo (ux_EN en) np st qp sp pn pg rg (ux_ED ds) pc fi ow po pl pw qu ou := ya_fail hp (hQ _ (y262a hp rfl (by decide) h))
    unfold wpY_read
    refine ya_eO hp hb hv ?_
    rcases hw with ⟨t, _, _, _, _, t2, e1, h1, h2, h3⟩ | ⟨o, ho, e1, h1⟩
    · rw [e1]
      exact ya_inO (b := 101) (e := 102) h1 h3 (by omega) (br_t rfl (ya_inO (b := 1) (e := 8) h2 h3 (by omega) (br_t rfl hX)))
    · rw [e1, ux_cvo o ho]
      refine ya_inO (b := 101) (e := 102) (by omega) (by omega) (by omega) (br_t rfl (ya_inN (b := 1) (e := 8) (by omega) (by omega) (by omega) (br_f (by decide) ?_)))
      rw [ux_so, ux_c (n := o) (by omega)]
      exact ⟨vp_in_nI ho (by decide), br_f h1 hX⟩
/-- READ of a file -/
theorem op_15o (hJ : ux_J B kd ns np en ds fi ow po st pp qp pc pn pl qu m c) (hN : ux_N qu m p) (hs : st p = 1) (H : ux_in sp pn pg p s l a b 15) {o : Nat} (ho8 : o < 8) (hv : ux_hv ds p (rg (p * 4 + b)) (nI (1 + o))) (how : ow o = 0) {n q g : Nat} (hn : n < 10) (en' : fi o = nI n) (hk : kd n = 1) (hq : q ≤ 20) (eq : po o = nI q) (hg : g ≤ 20) (eg : ns n = nI g) : ux_G (B + 1) p (nI m, nI c, ex + 1, kd, ns, np, wo, en, st, pp, sp, pc, pg, pn, rg, ds, fi, ow, po, pw, pl, qu, ou) ((nI m), ex, (nI c), go, kd, (ux_LN kd ns), wo, (ux_EN en), np, st, qp, sp, pn, pg, rg, (ux_ED ds), pc, fi, ow, po, pl, pw, qu, ou) := by
  obtain ⟨hF, hD, hO, hZ, hR, hU, hI, hL, hB⟩ := id hJ
  obtain ⟨hp, hi, ho, ha, ea, hb, eb⟩ := id H
  have cl : (nI p).toNatClampNeg = p := ux_c (by omega)
  have iv : vp_in (nI p) 5 := vp_in_nI hp (by decide)
  have ca : (nI (p * 4 + a)).toNatClampNeg = p * 4 + a := ux_c (by omega)
  have cb : (nI (p * 4 + b)).toNatClampNeg = p * 4 + b := ux_c (by omega)
  have c3 : (nI (p * 4 + 3)).toNatClampNeg = p * 4 + 3 := ux_c (by omega)
  have va : vp_in (nI (p * 4 + a)) 20 := vp_in_nI (by omega) (by decide)
  have vb : vp_in (nI (p * 4 + b)) 20 := vp_in_nI (by omega) (by decide)
  have v3 : vp_in (nI (p * 4 + 3)) 20 := vp_in_nI (by omega) (by decide)
  have e4 : 4 * nI p + nI a = nI (p * 4 + a) := by rw [ux_l_mul, nI_add, Nat.mul_comm]
  have f4 : 4 * nI p + nI b = nI (p * 4 + b) := by rw [ux_l_mul, nI_add, Nat.mul_comm]
  have x3 : nI p * 4 + 3 = nI (p * 4 + 3) := by rw [ux_mul_l, ux_add_l]
  have y3 : 4 * nI p + 3 = nI (p * 4 + 3) := by rw [ux_l_mul, ux_add_l, Nat.mul_comm]
  have co : (nI o).toNatClampNeg = o := ux_c (by omega)
  have vo : vp_in (nI o) 8 := vp_in_nI ho8 (by decide)
  have cn : (nI n).toNatClampNeg = n := ux_c (by omega)
  have vn : vp_in (nI n) 10 := vp_in_nI hn (by decide)
  have es : nI (1 + o) - 1 = nI o := ux_so o
  have eL : ux_LN kd ns n = nI g := by rw [ux_LN_f (by rw [hk]; exact ux_n12), eg]
  have x20 : nI n * 20 + nI q = nI (n * 20 + q) := by rw [ux_mul_l, nI_add]
  have y20 : 20 * nI n + nI q = nI (n * 20 + q) := by rw [ux_l_mul, nI_add, Nat.mul_comm]
  by_cases hlt : q < g
  · have cq : (nI (n * 20 + q)).toNatClampNeg = n * 20 + q := ux_c (by omega)
    have vq : vp_in (nI (n * 20 + q)) 200 := vp_in_nI (by omega) (by decide)
    refine ux_G1 (r := 1) (go := 1) (rg := upd (upd rg (p * 4 + 3) 1) (p * 4 + a) (wo (n * 20 + q))) (po := upd po o (nI (q + 1))) (sp := upd sp p (sp p + 1)) (ex := ex + 1) (kd := kd) (ns := ns) (np := np) (wo := wo) (en := en) (st := st) (pp := pp) (pc := pc) (pg := pg) (pn := pn) (ds := ds) (fi := fi) (ow := ow) (pw := pw) (pl := pl) (qu := qu) (ou := ou) (qp := qp) (m := m) (c := c) (fun _ h => xj_15 H (fun Q hQ => ?_)) (fun _ h => yj_15 H (fun Q hQ => ?_)) (ux_J_mono (ux_J_po hJ (by omega)) (by omega)) hN (Or.inr ⟨rfl, hs⟩)
    · unfold wpX_read
      dsimp only
      rw [cb]
      refine ⟨vb, xa_ha hp hv (xa_pN (e := 4096) (by omega) (by omega) (by omega) (br_t (by decide) (xa_io1 (by omega) (by omega) (br_f (by decide) ?_))))⟩
      rw [es, co]
      refine ⟨vo, br_t how ?_⟩
      unfold wpX_readFile
      dsimp only
      rw [co, x3, c3, ca]
      refine ⟨vo, nm_r en' ⟨vo, nm_r eq ⟨vn, ?_⟩⟩⟩
      rw [cn, eg, x20, cq, eq, nI_1]
      exact br_t (nI_lt hlt (by omega)) ⟨v3, nm_e ⟨vq, va, nm_e ⟨vo, vo, nm_e (hQ _ (x634a hp hs (by decide) h))⟩⟩⟩
    · unfold wpY_read
      refine ya_eO hp hb hv ?_
      rw [ux_cvo o ho8]
      refine ya_inO (b := 101) (e := 102) (by omega) (by omega) (by omega) (br_t rfl (ya_inN (b := 1) (e := 8) (by omega) (by omega) (by omega) (br_f (by decide) ?_)))
      rw [es, co]
      refine ⟨vo, br_t how (nm_e ?_)⟩
      rw [co, en', cn, eq, eL]
      refine ⟨vo, vo, vn, br_t (nI_lt hlt (by omega)) (ya_done hp ?_)⟩
      dsimp only
      rw [en', eq, y20, cq, e4, ca, nI_1]
      exact ⟨vo, vo, vq, va, nm_e ⟨vo, vo, nm_e (hQ _ (y262a hp rfl (by decide) h))⟩⟩
  · refine ux_G1 (r := 1) (go := 1) (rg := upd rg (p * 4 + 3) 0) (sp := upd sp p (sp p + 1)) (ex := ex + 1) (kd := kd) (ns := ns) (np := np) (wo := wo) (en := en) (st := st) (pp := pp) (pc := pc) (pg := pg) (pn := pn) (ds := ds) (fi := fi) (ow := ow) (po := po) (pw := pw) (pl := pl) (qu := qu) (ou := ou) (qp := qp) (m := m) (c := c) (fun _ h => xj_15 H (fun Q hQ => ?_)) (fun _ h => yj_15 H (fun Q hQ => ?_)) (ux_J_mono hJ (by omega)) hN (Or.inr ⟨rfl, hs⟩)
    · unfold wpX_read
      dsimp only
      rw [cb]
      refine ⟨vb, xa_ha hp hv (xa_pN (e := 4096) (by omega) (by omega) (by omega) (br_t (by decide) (xa_io1 (by omega) (by omega) (br_f (by decide) ?_))))⟩
      rw [es, co]
      refine ⟨vo, br_t how ?_⟩
      unfold wpX_readFile
      dsimp only
      rw [co, x3, c3, ca]
      refine ⟨vo, nm_r en' ⟨vo, nm_r eq ⟨vn, ?_⟩⟩⟩
      rw [cn, eg]
      exact br_f (nI_nlt (by omega) (by omega)) ⟨v3, nm_e (hQ _ (x634a hp hs (by decide) h))⟩
    · unfold wpY_read
      refine ya_eO hp hb hv ?_
      rw [ux_cvo o ho8]
      refine ya_inO (b := 101) (e := 102) (by omega) (by omega) (by omega) (br_t rfl (ya_inN (b := 1) (e := 8) (by omega) (by omega) (by omega) (br_f (by decide) ?_)))
      rw [es, co]
      refine ⟨vo, br_t how (nm_e ?_)⟩
      rw [co, en', cn, eq, eL, y3, c3]
      exact ⟨vo, vo, vn, br_f (nI_nlt (by omega) (by omega)) ⟨v3, nm_e (hQ _ (y262a hp rfl (by decide) h))⟩⟩
/-- READ of a pipe -/
theorem op_15p (hJ : ux_J B kd ns np en ds fi ow po st pp qp pc pn pl qu m c) (hN : ux_N qu m p) (hs : st p = 1) (H : ux_in sp pn pg p s l a b 15) {k : Nat} (hk : k < 2) (hv : ux_hv ds p (rg (p * 4 + b)) (nI (4096 + k))) : ux_G (B + 1) p (nI m, nI c, ex + 1, kd, ns, np, wo, en, st, pp, sp, pc, pg, pn, rg, ds, fi, ow, po, pw, pl, qu, ou) ((nI m), ex, (nI c), go, kd, (ux_LN kd ns), wo, (ux_EN en), np, st, qp, sp, pn, pg, rg, (ux_ED ds), pc, fi, ow, po, pl, pw, qu, ou) := by
  obtain ⟨hF, hD, hO, hZ, hR, hU, hI, hL, hB⟩ := id hJ
  obtain ⟨hp, hi, ho, ha, ea, hb, eb⟩ := id H
  have cl : (nI p).toNatClampNeg = p := ux_c (by omega)
  have iv : vp_in (nI p) 5 := vp_in_nI hp (by decide)
  have ca : (nI (p * 4 + a)).toNatClampNeg = p * 4 + a := ux_c (by omega)
  have cb : (nI (p * 4 + b)).toNatClampNeg = p * 4 + b := ux_c (by omega)
  have c3 : (nI (p * 4 + 3)).toNatClampNeg = p * 4 + 3 := ux_c (by omega)
  have va : vp_in (nI (p * 4 + a)) 20 := vp_in_nI (by omega) (by decide)
  have vb : vp_in (nI (p * 4 + b)) 20 := vp_in_nI (by omega) (by decide)
  have v3 : vp_in (nI (p * 4 + 3)) 20 := vp_in_nI (by omega) (by decide)
  have e4 : 4 * nI p + nI a = nI (p * 4 + a) := by rw [ux_l_mul, nI_add, Nat.mul_comm]
  have f4 : 4 * nI p + nI b = nI (p * 4 + b) := by rw [ux_l_mul, nI_add, Nat.mul_comm]
  have x3 : nI p * 4 + 3 = nI (p * 4 + 3) := by rw [ux_mul_l, ux_add_l]
  have y3 : 4 * nI p + 3 = nI (p * 4 + 3) := by rw [ux_l_mul, ux_add_l, Nat.mul_comm]
  obtain ⟨g, hg, eg⟩ := hI k hk
  have ck : (nI k).toNatClampNeg = k := ux_c (by omega)
  have vk : vp_in (nI k) 2 := vp_in_nI hk (by decide)
  have es : nI (101 + k) - 101 = nI k := ux_s101 k
  have xk4 : nI k * 4 = nI (k * 4) := ux_mul_l k 4
  have yk4 : 4 * nI k = nI (k * 4) := by rw [ux_l_mul, Nat.mul_comm]
  have c4 : (nI (k * 4)).toNatClampNeg = k * 4 := ux_c (by omega)
  have v4 : vp_in (nI (k * 4)) 8 := vp_in_nI (by omega) (by decide)
  by_cases hz : g = 0
  · have e0 : pl k = 0 := by rw [eg, hz]; rfl
    refine ux_G1 (r := 1) (go := 1) (rg := upd rg (p * 4 + 3) 0) (sp := upd sp p (sp p + 1)) (ex := ex + 1) (kd := kd) (ns := ns) (np := np) (wo := wo) (en := en) (st := st) (pp := pp) (pc := pc) (pg := pg) (pn := pn) (ds := ds) (fi := fi) (ow := ow) (po := po) (pw := pw) (pl := pl) (qu := qu) (ou := ou) (qp := qp) (m := m) (c := c) (fun _ h => xj_15 H (fun Q hQ => ?_)) (fun _ h => yj_15 H (fun Q hQ => ?_)) (ux_J_mono hJ (by omega)) hN (Or.inr ⟨rfl, hs⟩)
    · unfold wpX_read
      dsimp only
      rw [cb]
      refine ⟨vb, xa_ha hp hv (xa_pY (e := 4096) hk (by omega) (br_f (nI_pos (by omega)) ?_))⟩
      unfold wpX_readPipe
      dsimp only
      rw [ck, x3, c3]
      exact ⟨vk, br_t e0 ⟨v3, nm_e (hQ _ (x634a hp hs (by decide) h))⟩⟩
    · unfold wpY_read
      refine ya_eO hp hb hv ?_
      rw [ux_cvr k hk]
      refine ya_inN (b := 101) (e := 102) (by omega) (by omega) (by omega) (br_f (by decide) ?_)
      rw [es]
      unfold wpY_readPipe
      dsimp only
      rw [ck, y3, c3]
      exact ⟨vk, br_t e0 ⟨v3, nm_e (hQ _ (y262a hp rfl (by decide) h))⟩⟩
  · have e0 : pl k ≠ 0 := by rw [eg]; exact ux_nz (by omega) (by omega)
    refine ux_G1 (r := 1) (go := 1) (rg := upd (upd rg (p * 4 + 3) 1) (p * 4 + a) (pw (k * 4))) (pw := ux_sr pw k 3) (pl := upd pl k (pl k - 1)) (sp := upd sp p (sp p + 1)) (ex := ex + 1) (kd := kd) (ns := ns) (np := np) (wo := wo) (en := en) (st := st) (pp := pp) (pc := pc) (pg := pg) (pn := pn) (ds := ds) (fi := fi) (ow := ow) (po := po) (qu := qu) (ou := ou) (qp := qp) (m := m) (c := c) (fun _ h => xj_15 H (fun Q hQ => ?_)) (fun _ h => yj_15 H (fun Q hQ => ?_)) ?_ hN (Or.inr ⟨rfl, hs⟩)
    · unfold wpX_read
      dsimp only
      rw [cb]
      refine ⟨vb, xa_ha hp hv (xa_pY (e := 4096) hk (by omega) (br_f (nI_pos (by omega)) ?_))⟩
      unfold wpX_readPipe
      dsimp only
      rw [ck, x3, c3, xk4, c4, ca]
      exact ⟨vk, br_f e0 ⟨v3, nm_e ⟨v4, va, nm_e ⟨4, xs_rp hk (hQ _ (x634a hp hs (by decide) h)) 3 0 (by omega)⟩⟩⟩⟩
    · unfold wpY_read
      refine ya_eO hp hb hv ?_
      rw [ux_cvr k hk]
      refine ya_inN (b := 101) (e := 102) (by omega) (by omega) (by omega) (br_f (by decide) ?_)
      rw [es]
      unfold wpY_readPipe
      dsimp only
      rw [ck]
      refine ⟨vk, br_f e0 (ya_done hp ?_)⟩
      rw [yk4, c4, e4, ca]
      exact ⟨v4, va, nm_e (nm_r (e' := nI (k * 4 + 0)) rfl ⟨4, ys_rp hk (hQ _ (y262a hp rfl (by decide) h)) 3 0 (by omega)⟩)⟩
    · rw [eg, ux_m1p (by omega)]
      exact ux_J_mono (ux_J_pl hJ (by omega)) (by omega)
theorem op_15 (hJ : ux_J B kd ns np en ds fi ow po st pp qp pc pn pl qu m c) (hN : ux_N qu m p) (hs : st p = 1) (H : ux_in sp pn pg p s l a b 15) : ux_G (B + 1) p (nI m, nI c, ex + 1, kd, ns, np, wo, en, st, pp, sp, pc, pg, pn, rg, ds, fi, ow, po, pw, pl, qu, ou) ((nI m), ex, (nI c), go, kd, (ux_LN kd ns), wo, (ux_EN en), np, st, qp, sp, pn, pg, rg, (ux_ED ds), pc, fi, ow, po, pl, pw, qu, ou) := by
  obtain ⟨hF, hD, hO, hZ, hR, hU, hI, hL, hB⟩ := id hJ
  obtain ⟨w, hv, hV⟩ := ux_hvE hD H.1 (rg (p * 4 + b))
  have hx : ∀ o, o < 8 → w = nI (1 + o) → ∃ d, d < 20 ∧ ds d = nI (1 + o) := by
    intro o ho e
    rcases id hv with ⟨d, hd, _, e2⟩ | ⟨_, e2⟩
    · exact ⟨p * 4 + d, by have := H.1; omega, by rw [← e2]; exact e⟩
    · rw [e2] at e; exact absurd e.symm (ux_nz (by omega) (by omega))
  rcases id hV with h | ⟨o, ho, h⟩ | ⟨k, hk, h⟩ | ⟨k, hk, h⟩
  · exact op_15f hJ hN hs H hv (Or.inl ⟨0, h, by omega, by omega, by omega, 0, by rw [h, ux_cv0]; rfl, by omega, by omega, by omega⟩)
  · obtain ⟨d, hd, e⟩ := hx o ho h
    obtain ⟨⟨n, n0, n1, n2, n3⟩, how, q, hq, eq⟩ := hO d o hd ho e
    obtain ⟨g, hg, eg⟩ := (hF.2.2.2.2 n n1).2 n3
    by_cases h0 : ow o = 0
    · subst h
      exact op_15o hJ hN hs H ho hv h0 n1 n2 n3 hq eq hg eg
    · exact op_15f hJ hN hs H hv (Or.inr ⟨o, ho, h, h0⟩)
  · subst h
    exact op_15p hJ hN hs H hk hv
  · exact op_15f hJ hN hs H hv (Or.inl ⟨8192 + k, h, by omega, by omega, by omega, 201 + k, by rw [h, ux_cvw k hk], by omega, by omega, by omega⟩)
/-- SEEK -/
theorem op_19f (hJ : ux_J B kd ns np en ds fi ow po st pp qp pc pn pl qu m c) (hN : ux_N qu m p) (hs : st p = 1) (H : ux_in sp pn pg p s l a b 19) {w : Int32} (hv : ux_hv ds p (rg (p * 4 + b)) w)
    (hw : (∃ t, w = nI t ∧ (t < 1 ∨ 9 ≤ t) ∧ t < 100000 ∧ ∃ t2, ux_cv w = nI t2 ∧ (t2 < 1 ∨ 8 < t2) ∧ t2 < 100000) ∨ (∃ o n g, o < 8 ∧ w = nI (1 + o) ∧ n < 10 ∧ fi o = nI n ∧ kd n = 1 ∧ g ≤ 20 ∧ ns n = nI g ∧ (rg (p * 4 + a) < 0 ∨ (¬ rg (p * 4 + a) < 0 ∧ nI (g + 1) ≤ rg (p * 4 + a))))) : ux_G (B + 1) p (nI m, nI c, ex + 1, kd, ns, np, wo, en, st, pp, sp, pc, pg, pn, rg, ds, fi, ow, po, pw, pl, qu, ou) ((nI m), ex, (nI c), go, kd, (ux_LN kd ns), wo, (ux_EN en), np, st, qp, sp, pn, pg, rg, (ux_ED ds), pc, fi, ow, po, pl, pw, qu, ou) := by
  obtain ⟨hF, hD, hO, hZ, hR, hU, hI, hL, hB⟩ := id hJ
  obtain ⟨hp, hi, ho, ha, ea, hb, eb⟩ := id H
  have cl : (nI p).toNatClampNeg = p := ux_c (by omega)
  have iv : vp_in (nI p) 5 := vp_in_nI hp (by decide)
  have ca : (nI (p * 4 + a)).toNatClampNeg = p * 4 + a := ux_c (by omega)
  have cb : (nI (p * 4 + b)).toNatClampNeg = p * 4 + b := ux_c (by omega)
  have c3 : (nI (p * 4 + 3)).toNatClampNeg = p * 4 + 3 := ux_c (by omega)
  have va : vp_in (nI (p * 4 + a)) 20 := vp_in_nI (by omega) (by decide)
  have vb : vp_in (nI (p * 4 + b)) 20 := vp_in_nI (by omega) (by decide)
  have v3 : vp_in (nI (p * 4 + 3)) 20 := vp_in_nI (by omega) (by decide)
  have e4 : 4 * nI p + nI a = nI (p * 4 + a) := by rw [ux_l_mul, nI_add, Nat.mul_comm]
  have f4 : 4 * nI p + nI b = nI (p * 4 + b) := by rw [ux_l_mul, nI_add, Nat.mul_comm]
  have x3 : nI p * 4 + 3 = nI (p * 4 + 3) := by rw [ux_mul_l, ux_add_l]
  have y3 : 4 * nI p + 3 = nI (p * 4 + 3) := by rw [ux_l_mul, ux_add_l, Nat.mul_comm]
  refine ux_G1 (r := 1) (go := 1) (rg := upd rg (p * 4 + 3) (-1)) (sp := upd sp p (sp p + 1)) (ex := ex + 1) (kd := kd) (ns := ns) (np := np) (wo := wo) (en := en) (st := st) (pp := pp) (pc := pc) (pg := pg) (pn := pn) (ds := ds) (fi := fi) (ow := ow) (po := po) (pw := pw) (pl := pl) (qu := qu) (ou := ou) (qp := qp) (m := m) (c := c) (fun _ h => xj_19 H (fun Q hQ => ?_)) (fun _ h => yj_19 H (fun Q hQ => ?_)) (ux_J_mono hJ (by omega)) hN (Or.inr ⟨rfl, hs⟩)
  · have hX := hQ (-1) (nI m, nI c, ex + 1, kd, ns, np, wo, en, st, pp, upd sp p (sp p + 1), pc, pg, pn, rg, ds, fi, ow, po, pw, pl, qu, ou) (x634a hp hs (by decide) h)
    unfold wpX_seek
    refine xa_ha hp hv ?_
    rcases hw with ⟨t, e1, h1, h2, _⟩ | ⟨o, n, g, ho8, e1, hn, en', hk, hg, eg, hr⟩
    · rw [e1]
      exact xa_io0 h1 h2 (br_t rfl hX)
    · rw [e1]
      refine xa_io1 (by omega) (by omega) (br_f (by decide) (nm_r (e' := nI o) (ux_so o) ?_))
      rcases hr with hr | ⟨hr, hr2⟩
      · exact br_t hr hX
      · refine br_f hr ⟨vp_in_nI ho8 (by decide), ?_⟩
        rw [ux_c (n := o) (by omega), en', ux_c (n := n) (by omega), eg]
        exact ⟨vp_in_nI hn (by decide), br_f (ux_hi1 (by omega) hr2) hX⟩
  · have hX : wY_seek_59 Q (nI p) (nI m) (ex + 1) (nI c) 1 kd (ux_LN kd ns) wo (ux_EN en) np st qp sp pn pg rg (ux_ED ds) pc fi ow po pl pw qu ou := ya_fail hp (hQ _ (y262a hp rfl (by decide) h))
    unfold wpY_seek
    refine ya_eO hp hb hv ?_
    rw [e4, ca]
    refine ⟨va, nm_e ?_⟩
    rcases hw with ⟨t, _, _, _, t2, e1, h1, h2⟩ | ⟨o, n, g, ho8, e1, hn, en', hk, hg, eg, hr⟩
    · rw [e1]
      exact ya_inO (b := 1) (e := 8) h1 h2 (by omega) (br_t rfl hX)
    · rw [e1, ux_cvo o ho8]
      refine ya_inN (b := 1) (e := 8) (by omega) (by omega) (by omega) (br_f (by decide) ?_)
      rw [ux_so o, ux_k7 o ho8, ux_c (n := o) (by omega), en', ux_c (n := n) (by omega), ux_LN_f (by rw [hk]; exact ux_n12), eg]
      exact ⟨vp_in_nI ho8 (by decide), vp_in_nI hn (by decide), ya_inR g (by omega) hr (br_t rfl hX)⟩
theorem op_19 (hJ : ux_J B kd ns np en ds fi ow po st pp qp pc pn pl qu m c) (hN : ux_N qu m p) (hs : st p = 1) (H : ux_in sp pn pg p s l a b 19) : ux_G (B + 1) p (nI m, nI c, ex + 1, kd, ns, np, wo, en, st, pp, sp, pc, pg, pn, rg, ds, fi, ow, po, pw, pl, qu, ou) ((nI m), ex, (nI c), go, kd, (ux_LN kd ns), wo, (ux_EN en), np, st, qp, sp, pn, pg, rg, (ux_ED ds), pc, fi, ow, po, pl, pw, qu, ou) := by
  obtain ⟨hF, hD, hO, hZ, hR, hU, hI, hL, hB⟩ := id hJ
  obtain ⟨hp, hi, ho, ha, ea, hb, eb⟩ := id H
  have cl : (nI p).toNatClampNeg = p := ux_c (by omega)
  have iv : vp_in (nI p) 5 := vp_in_nI hp (by decide)
  have ca : (nI (p * 4 + a)).toNatClampNeg = p * 4 + a := ux_c (by omega)
  have cb : (nI (p * 4 + b)).toNatClampNeg = p * 4 + b := ux_c (by omega)
  have c3 : (nI (p * 4 + 3)).toNatClampNeg = p * 4 + 3 := ux_c (by omega)
  have va : vp_in (nI (p * 4 + a)) 20 := vp_in_nI (by omega) (by decide)
  have vb : vp_in (nI (p * 4 + b)) 20 := vp_in_nI (by omega) (by decide)
  have v3 : vp_in (nI (p * 4 + 3)) 20 := vp_in_nI (by omega) (by decide)
  have e4 : 4 * nI p + nI a = nI (p * 4 + a) := by rw [ux_l_mul, nI_add, Nat.mul_comm]
  have f4 : 4 * nI p + nI b = nI (p * 4 + b) := by rw [ux_l_mul, nI_add, Nat.mul_comm]
  have x3 : nI p * 4 + 3 = nI (p * 4 + 3) := by rw [ux_mul_l, ux_add_l]
  have y3 : 4 * nI p + 3 = nI (p * 4 + 3) := by rw [ux_l_mul, ux_add_l, Nat.mul_comm]
  obtain ⟨w, hv, hV⟩ := ux_hvE hD hp (rg (p * 4 + b))
  rcases id hV with h | ⟨o, ho8, h⟩ | ⟨k, hk, h⟩ | ⟨k, hk, h⟩
  · exact op_19f hJ hN hs H hv (Or.inl ⟨0, h, by omega, by omega, 0, by rw [h, ux_cv0]; rfl, by omega, by omega⟩)
  · have hx : ∃ d, d < 20 ∧ ds d = nI (1 + o) := by
      rcases id hv with ⟨d, hd, _, e2⟩ | ⟨_, e2⟩
      · exact ⟨p * 4 + d, by omega, by rw [← e2]; exact h⟩
      · rw [e2] at h; exact absurd h.symm (ux_nz (by omega) (by omega))
    obtain ⟨d, hd, e⟩ := hx
    obtain ⟨⟨n, n0, n1, n2, n3⟩, _, _⟩ := hO d o hd ho8 e
    obtain ⟨g, hg, eg⟩ := (hF.2.2.2.2 n n1).2 n3
    rcases ux_rg (rg (p * 4 + a)) (g + 1) (by omega) with ⟨t, ht, et⟩ | hr
    · subst h
      have es : nI (1 + o) - 1 = nI o := ux_so o
      have co : (nI o).toNatClampNeg = o := ux_c (by omega)
      have vo : vp_in (nI o) 8 := vp_in_nI ho8 (by decide)
      have cn : (nI n).toNatClampNeg = n := ux_c (by omega)
      have vn : vp_in (nI n) 10 := vp_in_nI n1 (by decide)
      refine ux_G1 (r := 1) (go := 1) (rg := upd rg (p * 4 + 3) 1) (po := upd po o (nI t)) (sp := upd sp p (sp p + 1)) (ex := ex + 1) (kd := kd) (ns := ns) (np := np) (wo := wo) (en := en) (st := st) (pp := pp) (pc := pc) (pg := pg) (pn := pn) (ds := ds) (fi := fi) (ow := ow) (pw := pw) (pl := pl) (qu := qu) (ou := ou) (qp := qp) (m := m) (c := c) (fun _ h => xj_19 H (fun Q hQ => ?_)) (fun _ h => yj_19 H (fun Q hQ => ?_)) (ux_J_mono (ux_J_po hJ (by omega)) (by omega)) hN (Or.inr ⟨rfl, hs⟩)
      · unfold wpX_seek
        refine xa_ha hp hv (xa_io1 (by omega) (by omega) (br_f (by decide) (nm_r es ?_)))
        rw [et, co, n2, cn, eg]
        exact br_f (nI_pos (by omega)) ⟨vo, vn, br_t (nI_le (by omega) (by omega)) ⟨vo, nm_e (hQ _ _ (x634a hp hs (by decide) h))⟩⟩
      · unfold wpY_seek
        refine ya_eO hp hb hv ?_
        rw [ux_cvo o ho8, e4, ca, et, es, ux_k7 o ho8, co, n2, cn, ux_LN_f (by rw [n3]; exact ux_n12), eg]
        exact ⟨va, nm_e (ya_inN (b := 1) (e := 8) (by omega) (by omega) (by omega) (br_f (by decide) ⟨vo, vn, ya_inN (b := 0) (e := g) (by omega) (by omega) (by omega) (br_f (by decide) ⟨vo, nm_e (ya_done hp (hQ _ (y262a hp rfl (by decide) h)))⟩)⟩))⟩
    · exact op_19f hJ hN hs H hv (Or.inr ⟨o, n, g, ho8, h, n1, n2, n3, hg, eg, hr⟩)
  · exact op_19f hJ hN hs H hv (Or.inl ⟨4096 + k, h, by omega, by omega, 101 + k, by rw [h, ux_cvr k hk], by omega, by omega⟩)
  · exact op_19f hJ hN hs H hv (Or.inl ⟨8192 + k, h, by omega, by omega, 201 + k, by rw [h, ux_cvw k hk], by omega, by omega⟩)
end UX19
end
section
section UX20A
variable {ql pr : Int32} {ex : Int64} {kd ns np wo en st pp sp pc pg pn rg ds fi ow po pw pl qu ou : Nat → Int32}
variable {post : Int32 → Prop} {k : Nat}
def ux_pf (ds : Nat → Int32) (k : Nat) : Prop := ¬ ux_hd ds (nI (4096 + k)) ∧ ¬ ux_hd ds (nI (8192 + k))
theorem xs_piN (f : Nat) (i : Nat) (hi : i < 2) (hn : ¬ ux_pf ds i) (h : wX_freePipe_2 post ql pr ex kd ns np wo en st pp sp pc pg pn rg ds fi ow po pw pl qu ou f (nI (i + 1))) : wX_freePipe_2 post ql pr ex kd ns np wo en st pp sp pc pg pn rg ds fi ow po pw pl qu ou (f + 1) (nI i) := by
  refine br_f (nI_ge (b := 2) hi (by decide)) ?_
  rw [ux_l_add, ux_l_add]
  by_cases h1 : ux_hd ds (nI (4096 + i))
  · exact xa_ih1 h1 (br_f (by decide) (nm_r (nI_1 i) h))
  · by_cases h2 : ux_hd ds (nI (8192 + i))
    · exact xa_ih0 h1 (br_t rfl (xa_ih1 h2 (br_f (by decide) (nm_r (nI_1 i) h))))
    · exact absurd ⟨h1, h2⟩ hn
theorem xs_piY (f : Nat) (i : Nat) (hi : i < 2) (hn : ux_pf ds i) (h : post (nI i)) : wX_freePipe_2 post ql pr ex kd ns np wo en st pp sp pc pg pn rg ds fi ow po pw pl qu ou (f + 1) (nI i) := by
  refine br_f (nI_ge (b := 2) hi (by decide)) ?_
  rw [ux_l_add, ux_l_add]
  exact xa_ih0 hn.1 (br_t rfl (xa_ih0 hn.2 (br_t rfl h)))
theorem xa_pi (hk : k < 2) (hf : ux_pf ds k) (hj : ∀ j, j < k → ¬ ux_pf ds j) (h : post (nI k)) : wpX_freePipe post (ql, pr, ex, kd, ns, np, wo, en, st, pp, sp, pc, pg, pn, rg, ds, fi, ow, po, pw, pl, qu, ou) := by
  by_cases e : k = 0
  · subst e
    exact ⟨1, xs_piY 0 0 (by omega) hf h⟩
  · have e1 : k = 1 := by omega
    subst e1
    exact ⟨2, xs_piN 1 0 (by omega) (hj 0 (by omega)) (xs_piY 0 1 (by omega) hf h)⟩
theorem xa_pi0 (hj : ∀ j, j < 2 → ¬ ux_pf ds j) (h : post (-1)) : wpX_freePipe post (ql, pr, ex, kd, ns, np, wo, en, st, pp, sp, pc, pg, pn, rg, ds, fi, ow, po, pw, pl, qu, ou) :=
  ⟨3, xs_piN 2 0 (by omega) (hj 0 (by omega)) (xs_piN 1 1 (by omega) (hj 1 (by omega)) (br_t (by decide) h))⟩
end UX20A
section UX20B
variable {ql pr go : Int32} {ex : Int64} {kd ns le wo en et np st qp sp pn pg rg ee ds pc fi ow po pl pw qu ou : Nat → Int32}
variable {post : SY → Prop} {k : Nat} {x1 x2 x3 x4 x5 : Int32}
theorem ya_pf (hD : ux_D ds) (hk : k < 2) : ux_pf ds k ↔ (¬ ux_hd (ux_ED ds) (nI (101 + k)) ∧ ¬ ux_hd (ux_ED ds) (nI (201 + k))) := by
  unfold ux_pf
  rw [ux_hd_r hD hk, ux_hd_w hD hk]
theorem ys_p51Y (hD : ux_D ds) (hf : ux_pf ds 1) (h : wY_pipeNew_75 post x1 x2 x3 x4 x5 1 ql ex pr go kd le wo et np st qp sp pn pg rg (ux_ED ds) pc fi ow po pl pw qu ou) : wY_pipeNew_51 post x1 x2 x3 x4 x5 ql ex pr go kd le wo et np st qp sp pn pg rg (ux_ED ds) pc fi ow po pl pw qu ou := by
  have h2 := (ya_pf hD (by omega)).mp hf
  unfold wY_pipeNew_51
  exact ya_h0 h2.1 (br_t rfl (ya_h0 h2.2 (br_t rfl h)))
theorem ys_p51N (hD : ux_D ds) (hf : ¬ ux_pf ds 1) (h : wY_pipeNew_75 post x1 x2 x3 x4 x5 (-1) ql ex pr go kd le wo et np st qp sp pn pg rg (ux_ED ds) pc fi ow po pl pw qu ou) : wY_pipeNew_51 post x1 x2 x3 x4 x5 ql ex pr go kd le wo et np st qp sp pn pg rg (ux_ED ds) pc fi ow po pl pw qu ou := by
  unfold wY_pipeNew_51
  by_cases h1 : ux_hd (ux_ED ds) (nI (101 + 1))
  · exact ya_h1 h1 (br_f (by decide) h)
  · by_cases h2 : ux_hd (ux_ED ds) (nI (201 + 1))
    · exact ya_h0 h1 (br_t rfl (ya_h1 h2 (br_f (by decide) h)))
    · exact absurd ((ya_pf hD (by omega)).mpr ⟨h1, h2⟩) hf
theorem ys_p26N (hD : ux_D ds) (hf : ¬ ux_pf ds 0) (h : wY_pipeNew_51 post x1 x2 x3 x4 x5 ql ex pr go kd le wo et np st qp sp pn pg rg (ux_ED ds) pc fi ow po pl pw qu ou) : wY_pipeNew_26 post x1 x2 x3 x4 x5 ql ex pr go kd le wo et np st qp sp pn pg rg (ux_ED ds) pc fi ow po pl pw qu ou := by
  unfold wY_pipeNew_26
  by_cases h1 : ux_hd (ux_ED ds) (nI (101 + 0))
  · exact ya_h1 h1 (br_f (by decide) h)
  · by_cases h2 : ux_hd (ux_ED ds) (nI (201 + 0))
    · exact ya_h0 h1 (br_t rfl (ya_h1 h2 (br_f (by decide) h)))
    · exact absurd ((ya_pf hD (by omega)).mpr ⟨h1, h2⟩) hf
theorem ya_pi (hD : ux_D ds) (hk : k < 2) (hf : ux_pf ds k) (hj : ∀ j, j < k → ¬ ux_pf ds j) (h : wY_pipeNew_75 post x1 x2 x3 x4 x5 (nI k) ql ex pr go kd le wo et np st qp sp pn pg rg (ux_ED ds) pc fi ow po pl pw qu ou) : wY_pipeNew_26 post x1 x2 x3 x4 x5 ql ex pr go kd le wo et np st qp sp pn pg rg (ux_ED ds) pc fi ow po pl pw qu ou := by
  by_cases e : k = 0
  · subst e
    have h2 := (ya_pf hD (by omega)).mp hf
    unfold wY_pipeNew_26
    exact ya_h0 h2.1 (br_t rfl (ya_h0 h2.2 (br_t rfl h)))
  · have e1 : k = 1 := by omega
    subst e1
    exact ys_p26N hD (hj 0 (by omega)) (ys_p51Y hD hf h)
theorem ya_pi0 (hD : ux_D ds) (hj : ∀ j, j < 2 → ¬ ux_pf ds j) (h : wY_pipeNew_75 post x1 x2 x3 x4 x5 (-1) ql ex pr go kd le wo et np st qp sp pn pg rg (ux_ED ds) pc fi ow po pl pw qu ou) : wY_pipeNew_26 post x1 x2 x3 x4 x5 ql ex pr go kd le wo et np st qp sp pn pg rg (ux_ED ds) pc fi ow po pl pw qu ou :=
  ys_p26N hD (hj 0 (by omega)) (ys_p51N hD (hj 1 (by omega)) h)
end UX20B
section UX20
variable {ql pr : Int32} {ex : Int64} {kd ns np wo en st pp sp pc pg pn rg ds fi ow po pw pl qu ou : Nat → Int32}
variable {qp : Nat → Int32} {go : Int32} {B p s l a b m c : Nat}
theorem op_17f (hJ : ux_J B kd ns np en ds fi ow po st pp qp pc pn pl qu m c) (hN : ux_N qu m p) (hs : st p = 1) (H : ux_in sp pn pg p s l a b 17)
    (hw : (∀ j, j < 2 → ¬ ux_pf ds j) ∨ ux_nf ds p 0 ∨ ∃ f, ux_fd ds p 0 f ∧ ux_nf ds p (f + 1)) : ux_G (B + 1) p (nI m, nI c, ex + 1, kd, ns, np, wo, en, st, pp, sp, pc, pg, pn, rg, ds, fi, ow, po, pw, pl, qu, ou) ((nI m), ex, (nI c), go, kd, (ux_LN kd ns), wo, (ux_EN en), np, st, qp, sp, pn, pg, rg, (ux_ED ds), pc, fi, ow, po, pl, pw, qu, ou) := by
  obtain ⟨hF, hD, hO, hZ, hR, hU, hI, hL, hB⟩ := id hJ
  obtain ⟨hp, hi, ho, ha, ea, hb, eb⟩ := id H
  have cl : (nI p).toNatClampNeg = p := ux_c (by omega)
  have iv : vp_in (nI p) 5 := vp_in_nI hp (by decide)
  have ca : (nI (p * 4 + a)).toNatClampNeg = p * 4 + a := ux_c (by omega)
  have cb : (nI (p * 4 + b)).toNatClampNeg = p * 4 + b := ux_c (by omega)
  have c3 : (nI (p * 4 + 3)).toNatClampNeg = p * 4 + 3 := ux_c (by omega)
  have va : vp_in (nI (p * 4 + a)) 20 := vp_in_nI (by omega) (by decide)
  have vb : vp_in (nI (p * 4 + b)) 20 := vp_in_nI (by omega) (by decide)
  have v3 : vp_in (nI (p * 4 + 3)) 20 := vp_in_nI (by omega) (by decide)
  have e4 : 4 * nI p + nI a = nI (p * 4 + a) := by rw [ux_l_mul, nI_add, Nat.mul_comm]
  have f4 : 4 * nI p + nI b = nI (p * 4 + b) := by rw [ux_l_mul, nI_add, Nat.mul_comm]
  have x3 : nI p * 4 + 3 = nI (p * 4 + 3) := by rw [ux_mul_l, ux_add_l]
  have y3 : 4 * nI p + 3 = nI (p * 4 + 3) := by rw [ux_l_mul, ux_add_l, Nat.mul_comm]
  refine ux_G1 (r := 1) (go := 1) (rg := upd rg (p * 4 + 3) (-1)) (sp := upd sp p (sp p + 1)) (ex := ex + 1) (kd := kd) (ns := ns) (np := np) (wo := wo) (en := en) (st := st) (pp := pp) (pc := pc) (pg := pg) (pn := pn) (ds := ds) (fi := fi) (ow := ow) (po := po) (pw := pw) (pl := pl) (qu := qu) (ou := ou) (qp := qp) (m := m) (c := c) (fun _ h => xj_17 H (fun Q hQ => ?_)) (fun _ h => yj_17 H (fun Q hQ => ?_)) (ux_J_mono hJ (by omega)) hN (Or.inr ⟨rfl, hs⟩)
  · have hX : wX_openPipe_40 Q (nI p) (nI m) (nI c) (ex + 1) kd ns np wo en st pp (upd sp p (sp p + 1)) pc pg pn rg ds fi ow po pw pl qu ou := xa_fail hp (hQ _ (x634a hp hs (by decide) h))
    have hd : ∀ r : Int32, ((∀ j, j < 2 → ¬ ux_pf ds j) → r < 0) → wpX_newDescriptor (fun r_25 => wpX_newDescriptor (fun r_49 => ((r < 0 → wX_openPipe_40 Q (nI p) (nI m) (nI c) (ex + 1) kd ns np wo en st pp (upd sp p (sp p + 1)) pc pg pn rg ds fi ow po pw pl qu ou) ∧ (¬ r < 0 → ((r_25 < 0 → wX_openPipe_40 Q (nI p) (nI m) (nI c) (ex + 1) kd ns np wo en st pp (upd sp p (sp p + 1)) pc pg pn rg ds fi ow po pw pl qu ou) ∧ (¬ r_25 < 0 → ((0 ≤ r_49 → (vp_in r 2 ∧ ∀ a_pipeLength_101, a_pipeLength_101 = upd pl r.toNatClampNeg 0 → (vp_in ((nI p * 4) + r_25) 20 ∧ ∀ a_descriptors_103, a_descriptors_103 = upd ds ((nI p * 4) + r_25).toNatClampNeg (4096 + r) → (vp_in ((nI p * 4) + r_49) 20 ∧ ∀ a_descriptors_105, a_descriptors_105 = upd a_descriptors_103 ((nI p * 4) + r_49).toNatClampNeg (8192 + r) → (vp_in (nI (p * 4 + a)) 20 ∧ ∀ a_registers_107, a_registers_107 = upd rg (nI (p * 4 + a)).toNatClampNeg r_25 → (vp_in (nI (p * 4 + b)) 20 ∧ ∀ a_registers_109, a_registers_109 = upd a_registers_107 (nI (p * 4 + b)).toNatClampNeg r_49 → (Q (nI m, nI c, ex + 1, kd, ns, np, wo, en, st, pp, upd sp p (sp p + 1), pc, pg, pn, a_registers_109, a_descriptors_105, fi, ow, po, pw, a_pipeLength_101, qu, ou)))))))) ∧ (¬ 0 ≤ r_49 → wX_openPipe_40 Q (nI p) (nI m) (nI c) (ex + 1) kd ns np wo en st pp (upd sp p (sp p + 1)) pc pg pn rg ds fi ow po pw pl qu ou))))))) (nI m, nI c, ex + 1, kd, ns, np, wo, en, st, pp, upd sp p (sp p + 1), pc, pg, pn, rg, ds, fi, ow, po, pw, pl, qu, ou) (nI p) (r_25 + 1)) (nI m, nI c, ex + 1, kd, ns, np, wo, en, st, pp, upd sp p (sp p + 1), pc, pg, pn, rg, ds, fi, ow, po, pw, pl, qu, ou) (nI p) 0 := by
      intro r hr
      rcases ux_fdnf ds p 0 (by omega) with ⟨f, hf⟩ | hf
      · refine xa_nd (a := 0) hp hf ?_
        rw [nI_1]
        rcases ux_fdnf ds p (f + 1) (by have := hf.2.1; omega) with ⟨g, hg⟩ | hg
        · refine xa_nd hp hg ?_
          rcases hw with z | z | ⟨f2, hf2, z⟩
          · exact br_t (hr z) hX
          · exact absurd hf.2.2.1 (z.2 f (by omega) hf.2.1)
          · have ef : f2 = f := by
              rcases Nat.lt_trichotomy f2 f with q | q | q
              · exact absurd hf2.2.2.1 (hf.2.2.2 f2 (by omega) q)
              · exact q
              · exact absurd hf.2.2.1 (hf2.2.2.2 f (by omega) q)
            subst ef
            exact absurd hg.2.2.1 (z.2 g hg.1 hg.2.1)
        · refine xa_nd0 hp hg ?_
          by_cases hz : r < 0
          · exact br_t hz hX
          · exact br_f hz (br_f (nI_pos (by have := hf.2.1; omega)) (br_f (by decide) hX))
      · refine xa_nd0 (a := 0) hp hf ?_
        have tail : ∀ r_49 : Int32, ((r < 0 → wX_openPipe_40 Q (nI p) (nI m) (nI c) (ex + 1) kd ns np wo en st pp (upd sp p (sp p + 1)) pc pg pn rg ds fi ow po pw pl qu ou) ∧ (¬ r < 0 → (((-1 : Int32) < 0 → wX_openPipe_40 Q (nI p) (nI m) (nI c) (ex + 1) kd ns np wo en st pp (upd sp p (sp p + 1)) pc pg pn rg ds fi ow po pw pl qu ou) ∧ (¬ (-1 : Int32) < 0 → ((0 ≤ r_49 → (vp_in r 2 ∧ ∀ a_pipeLength_101, a_pipeLength_101 = upd pl r.toNatClampNeg 0 → (vp_in ((nI p * 4) + (-1)) 20 ∧ ∀ a_descriptors_103, a_descriptors_103 = upd ds ((nI p * 4) + (-1)).toNatClampNeg (4096 + r) → (vp_in ((nI p * 4) + r_49) 20 ∧ ∀ a_descriptors_105, a_descriptors_105 = upd a_descriptors_103 ((nI p * 4) + r_49).toNatClampNeg (8192 + r) → (vp_in (nI (p * 4 + a)) 20 ∧ ∀ a_registers_107, a_registers_107 = upd rg (nI (p * 4 + a)).toNatClampNeg (-1) → (vp_in (nI (p * 4 + b)) 20 ∧ ∀ a_registers_109, a_registers_109 = upd a_registers_107 (nI (p * 4 + b)).toNatClampNeg r_49 → (Q (nI m, nI c, ex + 1, kd, ns, np, wo, en, st, pp, upd sp p (sp p + 1), pc, pg, pn, a_registers_109, a_descriptors_105, fi, ow, po, pw, a_pipeLength_101, qu, ou)))))))) ∧ (¬ 0 ≤ r_49 → wX_openPipe_40 Q (nI p) (nI m) (nI c) (ex + 1) kd ns np wo en st pp (upd sp p (sp p + 1)) pc pg pn rg ds fi ow po pw pl qu ou)))))) := by
          intro r_49
          by_cases hz : r < 0
          · exact br_t hz hX
          · exact br_f hz (br_t (by decide) hX)
        exact xa_nd0 (a := 0) hp hf (tail (-1))
    unfold wpX_openPipe
    rcases ux_ls (fun j => ux_pf ds j) 2 with ⟨k, hk, hk2, hj⟩ | hno
    · refine xa_pi hk hk2 hj (hd (nI k) (fun z => absurd hk2 (z k hk)))
    · exact xa_pi0 hno (hd (-1) (fun _ => by decide))
  · have hX : wY_pipeNew_87 Q (nI p) (nI m) (ex + 1) (nI c) 1 kd (ux_LN kd ns) wo (ux_EN en) np st qp sp pn pg rg (ux_ED ds) pc fi ow po pl pw qu ou := ya_fail hp (hQ _ (y262a hp rfl (by decide) h))
    have h26 : ∀ x4 x5 : Int32, (((∃ j, j < 2 ∧ ux_pf ds j)) → x5 < 0) → wY_pipeNew_26 Q (nI p) (nI a) (nI b) x4 x5 (nI m) (ex + 1) (nI c) 1 kd (ux_LN kd ns) wo (ux_EN en) np st qp sp pn pg rg (ux_ED ds) pc fi ow po pl pw qu ou := by
      intro x4 x5 hx
      rcases ux_ls (fun j => ux_pf ds j) 2 with ⟨k, hk, hk2, hj⟩ | hno
      · exact ya_pi hD hk hk2 hj (br_t (hx ⟨k, hk, hk2⟩) hX)
      · refine ya_pi0 hD hno ?_
        by_cases hz : x5 < 0
        · exact br_t hz hX
        · exact br_f hz (br_f (by decide) hX)
    unfold wpY_pipeNew
    rcases ux_fdnf ds p 0 (by omega) with ⟨f, hf⟩ | hf
    · refine ya_nd (a := 0) hD hp hf (br_t (nI_pos' (by have := hf.2.1; omega)) ?_)
      rw [nI_1]
      rcases ux_fdnf ds p (f + 1) (by have := hf.2.1; omega) with ⟨g, hg⟩ | hg
      · refine ya_nd hD hp hg (h26 _ _ (fun ⟨j, hj, hj2⟩ => ?_))
        rcases hw with z | z | ⟨f2, hf2, z⟩
        · exact absurd hj2 (z j hj)
        · exact absurd hf.2.2.1 (z.2 f (by omega) hf.2.1)
        · have ef : f2 = f := by
            rcases Nat.lt_trichotomy f2 f with q | q | q
            · exact absurd hf2.2.2.1 (hf.2.2.2 f2 (by omega) q)
            · exact q
            · exact absurd hf.2.2.1 (hf2.2.2.2 f (by omega) q)
          subst ef
          exact absurd hg.2.2.1 (z.2 g hg.1 hg.2.1)
      · exact ya_nd0 hD hp hg (h26 _ _ (fun _ => by decide))
    · exact ya_nd0 (a := 0) hD hp hf (br_f (by decide) (h26 _ _ (fun _ => by decide)))
theorem op_17 (hJ : ux_J B kd ns np en ds fi ow po st pp qp pc pn pl qu m c) (hN : ux_N qu m p) (hs : st p = 1) (H : ux_in sp pn pg p s l a b 17) : ux_G (B + 1) p (nI m, nI c, ex + 1, kd, ns, np, wo, en, st, pp, sp, pc, pg, pn, rg, ds, fi, ow, po, pw, pl, qu, ou) ((nI m), ex, (nI c), go, kd, (ux_LN kd ns), wo, (ux_EN en), np, st, qp, sp, pn, pg, rg, (ux_ED ds), pc, fi, ow, po, pl, pw, qu, ou) := by
  obtain ⟨hF, hD, hO, hZ, hR, hU, hI, hL, hB⟩ := id hJ
  obtain ⟨hp, hi, ho, ha, ea, hb, eb⟩ := id H
  have cl : (nI p).toNatClampNeg = p := ux_c (by omega)
  have iv : vp_in (nI p) 5 := vp_in_nI hp (by decide)
  have ca : (nI (p * 4 + a)).toNatClampNeg = p * 4 + a := ux_c (by omega)
  have cb : (nI (p * 4 + b)).toNatClampNeg = p * 4 + b := ux_c (by omega)
  have c3 : (nI (p * 4 + 3)).toNatClampNeg = p * 4 + 3 := ux_c (by omega)
  have va : vp_in (nI (p * 4 + a)) 20 := vp_in_nI (by omega) (by decide)
  have vb : vp_in (nI (p * 4 + b)) 20 := vp_in_nI (by omega) (by decide)
  have v3 : vp_in (nI (p * 4 + 3)) 20 := vp_in_nI (by omega) (by decide)
  have e4 : 4 * nI p + nI a = nI (p * 4 + a) := by rw [ux_l_mul, nI_add, Nat.mul_comm]
  have f4 : 4 * nI p + nI b = nI (p * 4 + b) := by rw [ux_l_mul, nI_add, Nat.mul_comm]
  have x3 : nI p * 4 + 3 = nI (p * 4 + 3) := by rw [ux_mul_l, ux_add_l]
  have y3 : 4 * nI p + 3 = nI (p * 4 + 3) := by rw [ux_l_mul, ux_add_l, Nat.mul_comm]
  rcases ux_ls (fun j => ux_pf ds j) 2 with ⟨k, hk, hk2, hj⟩ | hno
  · rcases ux_fdnf ds p 0 (by omega) with ⟨f, hf⟩ | hf
    · rcases ux_fdnf ds p (f + 1) (by have := hf.2.1; omega) with ⟨g, hg⟩ | hg
      · have f4' := hf.2.1
        have g4' := hg.2.1
        have hfg := hg.1
        have ck : (nI k).toNatClampNeg = k := ux_c (by omega)
        have vk : vp_in (nI k) 2 := vp_in_nI hk (by decide)
        have xf : nI p * 4 + nI f = nI (p * 4 + f) := by rw [ux_mul_l, nI_add]
        have yf : 4 * nI p + nI f = nI (p * 4 + f) := by rw [ux_l_mul, nI_add, Nat.mul_comm]
        have xg : nI p * 4 + nI g = nI (p * 4 + g) := by rw [ux_mul_l, nI_add]
        have yg : 4 * nI p + nI g = nI (p * 4 + g) := by rw [ux_l_mul, nI_add, Nat.mul_comm]
        have cf : (nI (p * 4 + f)).toNatClampNeg = p * 4 + f := ux_c (by omega)
        have cg : (nI (p * 4 + g)).toNatClampNeg = p * 4 + g := ux_c (by omega)
        have vf : vp_in (nI (p * 4 + f)) 20 := vp_in_nI (by omega) (by decide)
        have vg : vp_in (nI (p * 4 + g)) 20 := vp_in_nI (by omega) (by decide)
        refine ux_G1 (r := 1) (go := 1) (pl := upd pl k 0) (ds := upd (upd ds (p * 4 + f) (nI (4096 + k))) (p * 4 + g) (nI (8192 + k))) (rg := upd (upd rg (p * 4 + a) (nI f)) (p * 4 + b) (nI g)) (sp := upd sp p (sp p + 1)) (ex := ex + 1) (kd := kd) (ns := ns) (np := np) (wo := wo) (en := en) (st := st) (pp := pp) (pc := pc) (pg := pg) (pn := pn) (fi := fi) (ow := ow) (po := po) (pw := pw) (qu := qu) (ou := ou) (qp := qp) (m := m) (c := c) (fun _ h => xj_17 H (fun Q hQ => ?_)) (fun _ h => yj_17 H (fun Q hQ => ?_)) ?_ hN (Or.inr ⟨rfl, hs⟩)
        · unfold wpX_openPipe
          refine xa_pi hk hk2 hj (xa_nd (a := 0) hp hf ?_)
          rw [nI_1]
          refine xa_nd hp hg (br_f (nI_pos (by omega)) (br_f (nI_pos (by omega)) (br_t (nI_pos' (by omega)) ?_)))
          rw [ck, xf, xg, cf, cg, ca, cb, ux_l_add, ux_l_add]
          exact ⟨vk, nm_e ⟨vf, nm_e ⟨vg, nm_e ⟨va, nm_e ⟨vb, nm_e (hQ _ (x634a hp hs (by decide) h))⟩⟩⟩⟩⟩
        · rw [ux_ED_u, ux_ED_u, ux_cvr k hk, ux_cvw k hk] at h
          unfold wpY_pipeNew
          refine ya_nd (a := 0) hD hp hf (br_t (nI_pos' (by omega)) ?_)
          rw [nI_1]
          refine ya_nd hD hp hg (ya_pi hD hk hk2 hj (br_f (nI_pos (by omega)) (br_t (nI_pos' (by omega)) ?_)))
          rw [ck, yf, yg, cf, cg, e4, f4, ca, cb, ux_l_add, ux_l_add]
          exact ⟨vk, nm_e ⟨vf, nm_e ⟨vg, nm_e ⟨va, nm_e ⟨vb, nm_e (hQ _ (y262a hp rfl (by decide) h))⟩⟩⟩⟩⟩
        · refine ux_J_mono (ux_J_pend (ux_J_pend (ux_J_pl (q := 0) hJ (by omega)) hs f4' hf.2.2.1 ⟨k, hk, Or.inl rfl⟩) hs g4' ?_ ⟨k, hk, Or.inr rfl⟩) (by omega)
          rw [ux_un (by omega)]; exact hg.2.2.1
      · exact op_17f hJ hN hs H (Or.inr (Or.inr ⟨f, hf, hg⟩))
    · exact op_17f hJ hN hs H (Or.inr (Or.inl hf))
  · exact op_17f hJ hN hs H (Or.inl hno)
end UX20
end
section
section UX21
variable {ql pr : Int32} {ex : Int64} {kd ns np wo en st pp sp pc pg pn rg ds fi ow po pw pl qu ou : Nat → Int32}
variable {qp : Nat → Int32} {go : Int32} {B p s l a b m c v : Nat} {x y : Int32}
/-- an end's new state: 0 without a parent, else 3 -/
theorem ux_px (hR : ux_R kd st pp qp pc pn) (hv : v < 5) (hs : st v = 1 ∨ st v = 2) : ∃ x : Int32, (x = 0 ∨ x = 3) ∧ ((pp v = -1 ∧ x = 0) ∨ (pp v ≠ -1 ∧ x = 3)) ∧ ((¬ 0 ≤ qp v ∧ x = 0) ∨ (0 ≤ qp v ∧ x = 3)) ∧ pp v ≠ nI v := by
  have h0 : st v ≠ 0 := by rcases hs with h | h <;> rw [h] <;> decide
  obtain ⟨e, h⟩ := (hR v hv).2.1 h0
  have ho := ux_own hR hv h0
  rcases h with h | ⟨c, hc, _, h⟩
  · exact ⟨0, Or.inl rfl, Or.inl ⟨h, rfl⟩, Or.inl ⟨by rw [← e, h]; decide, rfl⟩, ho⟩
  · exact ⟨3, Or.inr rfl, Or.inr ⟨by rw [h]; exact ux_neg1 (by omega), rfl⟩, Or.inr ⟨by rw [← e, h]; exact nI_pos' (by omega), rfl⟩, ho⟩
theorem ye_gen {post : SY → Prop} (hJ : ux_J B kd ns np en ds fi ow po st pp qp pc pn pl qu m c) (hv : v < 5) (hs : st v = 1 ∨ st v = 2) (hx : (¬ 0 ≤ qp v ∧ x = 0) ∨ (0 ≤ qp v ∧ x = 3))
    (h : post ((nI (ux_lk qu v m).2), ex, pr, go, (ux_ck kd en (ux_zp ds v) fi), (ux_LN (ux_ck kd en (ux_zp ds v) fi) ns), wo, (ux_EN en), np, (upd (ux_s1 st pp v 5) v x), (ux_p2 st qp v 5), (upd sp v y), pn, pg, rg, (ux_ED (ux_zp ds v)), pc, fi, ow, po, pl, pw, ((ux_lk qu v m).1), ou)) : wpY_end post ((nI m), ex, pr, go, kd, (ux_LN kd ns), wo, (ux_EN en), np, st, qp, sp, pn, pg, rg, (ux_ED ds), pc, fi, ow, po, pl, pw, qu, ou) (nI v) y := by
  obtain ⟨hF, hD, hO, hZ, hR, hU, hI, hL, hB⟩ := hJ
  have h0 : st v ≠ 0 := by rcases hs with h | h <;> rw [h] <;> decide
  rw [ux_LN_ck, ← ux_s12 hR hv h0] at h
  exact ya_en hU.1 hv hF.1 hF.2.1 hD hx h
theorem ye_self {post : SY → Prop} (hJ : ux_J B kd ns np en ds fi ow po st pp qp pc pn pl qu m c) (hN : ux_N qu m v) (hv : v < 5) (hs : st v = 1 ∨ st v = 2) (hx : (¬ 0 ≤ qp v ∧ x = 0) ∨ (0 ≤ qp v ∧ x = 3))
    (h : post ((nI m), ex, pr, go, (ux_ck kd en (ux_zp ds v) fi), (ux_LN (ux_ck kd en (ux_zp ds v) fi) ns), wo, (ux_EN en), np, (upd (ux_s1 st pp v 5) v x), (ux_p2 st qp v 5), (upd sp v y), pn, pg, rg, (ux_ED (ux_zp ds v)), pc, fi, ow, po, pl, pw, qu, ou)) : wpY_end post ((nI m), ex, pr, go, kd, (ux_LN kd ns), wo, (ux_EN en), np, st, qp, sp, pn, pg, rg, (ux_ED ds), pc, fi, ow, po, pl, pw, qu, ou) (nI v) y := by
  refine ye_gen hJ hv hs hx ?_
  rw [ux_lk_id m hN]
  exact h
theorem ux_x1 (hx : x = 0 ∨ x = 3) : x ≠ 1 := by
  rcases hx with h | h <;> rw [h] <;> decide
theorem op_0 (hJ : ux_J B kd ns np en ds fi ow po st pp qp pc pn pl qu m c) (hN : ux_N qu m p) (hs : st p = 1) (H : ux_in sp pn pg p s l a b 0) : ux_G (B + 1) p (nI m, nI c, ex + 1, kd, ns, np, wo, en, st, pp, sp, pc, pg, pn, rg, ds, fi, ow, po, pw, pl, qu, ou) ((nI m), ex, (nI c), go, kd, (ux_LN kd ns), wo, (ux_EN en), np, st, qp, sp, pn, pg, rg, (ux_ED ds), pc, fi, ow, po, pl, pw, qu, ou) := by
  obtain ⟨hF, hD, hO, hZ, hR, hU, hI, hL, hB⟩ := id hJ
  obtain ⟨hp, hi, ho, ha, ea, hb, eb⟩ := id H
  have cl : (nI p).toNatClampNeg = p := ux_c (by omega)
  have iv : vp_in (nI p) 5 := vp_in_nI hp (by decide)
  have ca : (nI (p * 4 + a)).toNatClampNeg = p * 4 + a := ux_c (by omega)
  have cb : (nI (p * 4 + b)).toNatClampNeg = p * 4 + b := ux_c (by omega)
  have c3 : (nI (p * 4 + 3)).toNatClampNeg = p * 4 + 3 := ux_c (by omega)
  have va : vp_in (nI (p * 4 + a)) 20 := vp_in_nI (by omega) (by decide)
  have vb : vp_in (nI (p * 4 + b)) 20 := vp_in_nI (by omega) (by decide)
  have v3 : vp_in (nI (p * 4 + 3)) 20 := vp_in_nI (by omega) (by decide)
  have e4 : 4 * nI p + nI a = nI (p * 4 + a) := by rw [ux_l_mul, nI_add, Nat.mul_comm]
  have f4 : 4 * nI p + nI b = nI (p * 4 + b) := by rw [ux_l_mul, nI_add, Nat.mul_comm]
  have x3 : nI p * 4 + 3 = nI (p * 4 + 3) := by rw [ux_mul_l, ux_add_l]
  have y3 : 4 * nI p + 3 = nI (p * 4 + 3) := by rw [ux_l_mul, ux_add_l, Nat.mul_comm]
  obtain ⟨x, hx, hx1, hx2, hown⟩ := ux_px hR hp (Or.inl hs)
  refine ux_G2 (r := 0) (go := go) (ds := ux_zp ds p) (pp := ux_p1 pp p 5) (qp := ux_p2 st qp p 5) (st := upd (ux_s1 st pp p 5) p x) (sp := upd sp p (rg (p * 4 + a))) (ex := ex + 1) (kd := kd) (ns := ns) (np := np) (wo := wo) (en := en) (pc := pc) (pg := pg) (pn := pn) (rg := rg) (fi := fi) (ow := ow) (po := po) (pw := pw) (pl := pl) (qu := qu) (ou := ou) (m := m) (c := c) (fun _ h => xj_0 H (fun Q hQ => xa_en hp hown hx1 (hQ _ ?_))) (fun _ h => yj_0 H (fun Q hQ => ye_self hJ hN hp (Or.inl hs) hx2 (hQ _ h))) (ux_D_zp hD) (ux_J_mono (ux_J_end hJ hp (Or.inl hs) hx hU hN) (by omega)) hN (Or.inl rfl)
  show wX_execute_634 _ _ _ _ _ _ _ _ _ _ _ _ _ _ _ _ _ _ _ _ _ _ _ _ _ _
  rw [ux_uu]
  exact x634e hp (by rw [ux_us]; exact ux_x1 hx) h
theorem op_out (hJ : ux_J B kd ns np en ds fi ow po st pp qp pc pn pl qu m c) (hN : ux_N qu m p) (hs : st p = 1) (hp : p < 5) (hu : ux_up sp pn p l) : ux_G (B + 1) p (nI m, nI c, ex + 1, kd, ns, np, wo, en, st, pp, sp, pc, pg, pn, rg, ds, fi, ow, po, pw, pl, qu, ou) ((nI m), ex, (nI c), go, kd, (ux_LN kd ns), wo, (ux_EN en), np, st, qp, sp, pn, pg, rg, (ux_ED ds), pc, fi, ow, po, pl, pw, qu, ou) := by
  obtain ⟨hF, hD, hO, hZ, hR, hU, hI, hL, hB⟩ := id hJ
  obtain ⟨x, hx, hx1, hx2, hown⟩ := ux_px hR hp (Or.inl hs)
  exact ux_G2 (r := 0) (go := go) (ds := ux_zp ds p) (pp := ux_p1 pp p 5) (qp := ux_p2 st qp p 5) (st := upd (ux_s1 st pp p 5) p x) (sp := upd sp p (-4)) (ex := ex + 1) (kd := kd) (ns := ns) (np := np) (wo := wo) (en := en) (pc := pc) (pg := pg) (pn := pn) (rg := rg) (fi := fi) (ow := ow) (po := po) (pw := pw) (pl := pl) (qu := qu) (ou := ou) (m := m) (c := c) (fun _ h => xj_out hp hu (fun Q hQ => xa_en hp hown hx1 (hQ _ h))) (fun _ h => yj_out hp hu (fun Q hQ => ye_self hJ hN hp (Or.inl hs) hx2 (hQ _ h))) (ux_D_zp hD) (ux_J_mono (ux_J_end hJ hp (Or.inl hs) hx hU hN) (by omega)) hN (Or.inl rfl)
/-! KILL -/
theorem ux_al (hR : ux_R kd st pp qp pc pn) (r : Int32) : (∃ v, v < 5 ∧ r = nI v ∧ (st v = 1 ∨ st v = 2)) ∨ ((r < 0 ∨ (¬ r < 0 ∧ nI 5 ≤ r)) ∨ ∃ v, v < 5 ∧ r = nI v ∧ st v ≠ 1 ∧ st v ≠ 2) := by
  rcases ux_rg r 5 (by decide) with ⟨v, hv, e⟩ | h
  · rcases (hR v hv).1 with h | h | h | h
    · exact Or.inr (Or.inr ⟨v, hv, e, by rw [h]; decide, by rw [h]; decide⟩)
    · exact Or.inl ⟨v, hv, e, Or.inl h⟩
    · exact Or.inl ⟨v, hv, e, Or.inr h⟩
    · exact Or.inr (Or.inr ⟨v, hv, e, by rw [h]; decide, by rw [h]; decide⟩)
  · exact Or.inr (Or.inl h)
end UX21
section UX21Y
variable {ql pr go : Int32} {ex : Int64} {kd ns le wo en et np st qp sp pn pg rg ee ds pc fi ow po pl pw qu ou : Nat → Int32}
variable {post : Int32 → Prop} {p : Nat} {r w : Int32}
theorem ya_lv1 (hp : p < 5) (hs : st p = 1 ∨ st p = 2) (h : post 1) : wpY_isLive post (ql, ex, pr, go, kd, le, wo, et, np, st, qp, sp, pn, pg, rg, ee, pc, fi, ow, po, pl, pw, qu, ou) (nI p) := by
  unfold wpY_isLive
  have cl : (nI p).toNatClampNeg = p := ux_c (by omega)
  have iv : vp_in (nI p) 5 := vp_in_nI hp (by decide)
  refine ya_inN (b := 0) (e := 4) (by omega) (by omega) (by omega) (br_f (by decide) ⟨iv, ?_⟩)
  rw [cl]
  rcases hs with h1 | h1
  · exact br_t h1 h
  · exact br_f (by rw [h1]; decide) ⟨iv, br_t h1 h⟩
theorem ya_lv0 (hp : p < 5) (h1 : st p ≠ 1) (h2 : st p ≠ 2) (h : post 0) : wpY_isLive post (ql, ex, pr, go, kd, le, wo, et, np, st, qp, sp, pn, pg, rg, ee, pc, fi, ow, po, pl, pw, qu, ou) (nI p) := by
  unfold wpY_isLive
  have cl : (nI p).toNatClampNeg = p := ux_c (by omega)
  have iv : vp_in (nI p) 5 := vp_in_nI hp (by decide)
  refine ya_inN (b := 0) (e := 4) (by omega) (by omega) (by omega) (br_f (by decide) ⟨iv, ?_⟩)
  rw [cl]
  exact br_f h1 ⟨iv, br_f h2 h⟩
theorem ya_lvO (hr : r < 0 ∨ (¬ r < 0 ∧ nI 5 ≤ r)) (h : post 0) : wpY_isLive post (ql, ex, pr, go, kd, le, wo, et, np, st, qp, sp, pn, pg, rg, ee, pc, fi, ow, po, pl, pw, qu, ou) r := by
  unfold wpY_isLive
  exact ya_inR 4 (by omega) hr (br_t rfl h)
theorem ys_pl : ∀ d i f, i + d ≤ 5 → (∀ j, i ≤ j → j < i + d → ¬ ((st j = 1 ∨ st j = 2) ∧ pc j = w)) → wY_isPlace_2 post w ql ex pr go kd le wo et np st qp sp pn pg rg ee pc fi ow po pl pw qu ou f (nI (i + d)) → wY_isPlace_2 post w ql ex pr go kd le wo et np st qp sp pn pg rg ee pc fi ow po pl pw qu ou (f + d) (nI i) := by
  intro d
  induction d with
  | zero => intro i f _ _ h; exact h
  | succ d ih =>
    intro i f hi hj h
    have H := ih (i + 1) f (by omega) (fun j h1 h2 => hj j (by omega) (by omega)) (by rw [show i + 1 + d = i + (d + 1) by omega]; exact h)
    refine br_f (nI_ge (b := 5) (by omega) (by decide)) ?_
    by_cases hs : st i = 1 ∨ st i = 2
    · refine ya_lv1 (by omega) hs (br_f (by decide) ⟨vp_in_nI (by omega) (by decide), br_f ?_ (nm_r (nI_1 i) H)⟩)
      rw [ux_c (by omega)]
      exact fun z => hj i (by omega) (by omega) ⟨hs, z⟩
    · exact ya_lv0 (by omega) (fun z => hs (Or.inl z)) (fun z => hs (Or.inr z)) (br_t rfl (nm_r (nI_1 i) H))
theorem ya_pl1 (hh : ∃ j, j < 5 ∧ (st j = 1 ∨ st j = 2) ∧ pc j = w) (h : post 1) : wpY_isPlace post (ql, ex, pr, go, kd, le, wo, et, np, st, qp, sp, pn, pg, rg, ee, pc, fi, ow, po, pl, pw, qu, ou) w := by
  rcases ux_ls (fun j => (st j = 1 ∨ st j = 2) ∧ pc j = w) 5 with ⟨i, hi, e, hj⟩ | hno
  · refine ⟨1 + i, ys_pl i 0 1 (by omega) (fun j _ h2 => hj j (by omega)) ?_⟩
    rw [Nat.zero_add]
    exact br_f (nI_ge (b := 5) (by omega) (by decide)) (ya_lv1 hi e.1 (br_f (by decide) ⟨vp_in_nI (by omega) (by decide), br_t (by rw [ux_c (by omega)]; exact e.2) h⟩))
  · obtain ⟨j, hj, e⟩ := hh
    exact absurd e (hno j hj)
theorem ya_pl0 (hh : ∀ j, j < 5 → ¬ ((st j = 1 ∨ st j = 2) ∧ pc j = w)) (h : post 0) : wpY_isPlace post (ql, ex, pr, go, kd, le, wo, et, np, st, qp, sp, pn, pg, rg, ee, pc, fi, ow, po, pl, pw, qu, ou) w := by
  refine ⟨1 + 5, ys_pl 5 0 1 (by omega) (fun j _ h2 => hh j (by omega)) ?_⟩
  exact br_t (by decide) h
end UX21Y
section UX21B
variable {ql pr : Int32} {ex : Int64} {kd ns np wo en st pp sp pc pg pn rg ds fi ow po pw pl qu ou : Nat → Int32}
variable {qp : Nat → Int32} {go : Int32} {B p s l a b m c v : Nat} {x y : Int32}
theorem op_28 (hJ : ux_J B kd ns np en ds fi ow po st pp qp pc pn pl qu m c) (hN : ux_N qu m p) (hs : st p = 1) (H : ux_in sp pn pg p s l a b 28) : ux_G (B + 1) p (nI m, nI c, ex + 1, kd, ns, np, wo, en, st, pp, sp, pc, pg, pn, rg, ds, fi, ow, po, pw, pl, qu, ou) ((nI m), ex, (nI c), go, kd, (ux_LN kd ns), wo, (ux_EN en), np, st, qp, sp, pn, pg, rg, (ux_ED ds), pc, fi, ow, po, pl, pw, qu, ou) := by
  obtain ⟨hF, hD, hO, hZ, hR, hU, hI, hL, hB⟩ := id hJ
  obtain ⟨hp, hi, ho, ha, ea, hb, eb⟩ := id H
  have cl : (nI p).toNatClampNeg = p := ux_c (by omega)
  have iv : vp_in (nI p) 5 := vp_in_nI hp (by decide)
  have ca : (nI (p * 4 + a)).toNatClampNeg = p * 4 + a := ux_c (by omega)
  have cb : (nI (p * 4 + b)).toNatClampNeg = p * 4 + b := ux_c (by omega)
  have c3 : (nI (p * 4 + 3)).toNatClampNeg = p * 4 + 3 := ux_c (by omega)
  have va : vp_in (nI (p * 4 + a)) 20 := vp_in_nI (by omega) (by decide)
  have vb : vp_in (nI (p * 4 + b)) 20 := vp_in_nI (by omega) (by decide)
  have v3 : vp_in (nI (p * 4 + 3)) 20 := vp_in_nI (by omega) (by decide)
  have e4 : 4 * nI p + nI a = nI (p * 4 + a) := by rw [ux_l_mul, nI_add, Nat.mul_comm]
  have f4 : 4 * nI p + nI b = nI (p * 4 + b) := by rw [ux_l_mul, nI_add, Nat.mul_comm]
  have x3 : nI p * 4 + 3 = nI (p * 4 + 3) := by rw [ux_mul_l, ux_add_l]
  have y3 : 4 * nI p + 3 = nI (p * 4 + 3) := by rw [ux_l_mul, ux_add_l, Nat.mul_comm]
  have fails : (rg (p * 4 + a) = nI p ∨ (rg (p * 4 + a) ≠ nI p ∧ ((rg (p * 4 + a) < 0 ∨ (¬ rg (p * 4 + a) < 0 ∧ nI 5 ≤ rg (p * 4 + a))) ∨ ∃ v, v < 5 ∧ rg (p * 4 + a) = nI v ∧ st v ≠ 1 ∧ st v ≠ 2))) → ux_G (B + 1) p (nI m, nI c, ex + 1, kd, ns, np, wo, en, st, pp, sp, pc, pg, pn, rg, ds, fi, ow, po, pw, pl, qu, ou) ((nI m), ex, (nI c), go, kd, (ux_LN kd ns), wo, (ux_EN en), np, st, qp, sp, pn, pg, rg, (ux_ED ds), pc, fi, ow, po, pl, pw, qu, ou) := by
    intro hw
    refine ux_G1 (r := 1) (go := 1) (rg := upd rg (p * 4 + 3) (-1)) (sp := upd sp p (sp p + 1)) (ex := ex + 1) (kd := kd) (ns := ns) (np := np) (wo := wo) (en := en) (st := st) (pp := pp) (pc := pc) (pg := pg) (pn := pn) (ds := ds) (fi := fi) (ow := ow) (po := po) (pw := pw) (pl := pl) (qu := qu) (ou := ou) (qp := qp) (m := m) (c := c) (fun _ h => xj_28 H (fun Q hQ => ?_)) (fun _ h => yj_28 H (fun Q hQ => ?_)) (ux_J_mono hJ (by omega)) hN (Or.inr ⟨rfl, hs⟩)
    · have hX := hQ (-1) (nI m, nI c, ex + 1, kd, ns, np, wo, en, st, pp, upd sp p (sp p + 1), pc, pg, pn, rg, ds, fi, ow, po, pw, pl, qu, ou) (x634a hp hs (by decide) h)
      unfold wpX_kill
      rcases hw with z | ⟨z, z2 | ⟨v, hv, e, h1, h2⟩⟩
      · exact br_t z hX
      · exact br_f z (xa_alO z2 (br_t rfl hX))
      · refine br_f z ?_
        rw [e]
        exact xa_al0 hv h1 h2 (br_t rfl hX)
    · have hX : wY_killOther_24 Q (nI p) (nI m) (ex + 1) (nI c) 1 kd (ux_LN kd ns) wo (ux_EN en) np st qp sp pn pg rg (ux_ED ds) pc fi ow po pl pw qu ou := ya_fail hp (hQ _ (y262a hp rfl (by decide) h))
      unfold wpY_killOther
      dsimp only
      rw [e4, ca]
      refine ⟨va, nm_e ?_⟩
      rcases hw with z | ⟨z, z2 | ⟨v, hv, e, h1, h2⟩⟩
      · exact br_t z hX
      · exact br_f z (ya_lvO z2 (br_t rfl hX))
      · refine br_f z ?_
        rw [e]
        exact ya_lv0 hv h1 h2 (br_t rfl hX)
  by_cases hself : rg (p * 4 + a) = nI p
  · exact fails (Or.inl hself)
  · rcases ux_al hR (rg (p * 4 + a)) with ⟨v, hv, e, hvs⟩ | hd
    · have hvp : v ≠ p := fun z => hself (by rw [e, z])
      obtain ⟨x, hx, hx1, hx2, hown⟩ := ux_px hR hv hvs
      have hst : upd (ux_s1 st pp v 5) v x p = 1 := by
        rw [ux_un (Ne.symm hvp), ux_s1_to (by rw [hs]; decide)]; exact hs
      refine ux_G2 (r := 1) (go := 1) (m := (ux_lk qu v m).2) (qu := (ux_lk qu v m).1) (ds := ux_zp ds v) (pp := ux_p1 pp v 5) (qp := ux_p2 st qp v 5) (st := upd (ux_s1 st pp v 5) v x) (sp := upd (upd sp v (-3)) p (sp p + 1)) (rg := upd rg (p * 4 + 3) 1) (ex := ex + 1) (kd := kd) (ns := ns) (np := np) (wo := wo) (en := en) (pc := pc) (pg := pg) (pn := pn) (fi := fi) (ow := ow) (po := po) (pw := pw) (pl := pl) (ou := ou) (c := c) (fun _ h => xj_28 H (fun Q hQ => br_f hself ?_)) (fun _ h => yj_28 H (fun Q hQ => ?_)) (ux_D_zp hD) (ux_J_mono (ux_J_end hJ hv hvs hx (ux_Q_lk hU).1 (ux_Q_lk hU).2) (by omega)) (ux_N_lk hN) (Or.inr ⟨rfl, hst⟩)
      · rw [e]
        refine xa_al1 hv hvs (br_f (by decide) (xa_en hv hown hx1 (xa_lq hU.1 (hQ _ _ ?_))))
        have es : upd (upd sp p (sp p + 1)) v (-3) = upd (upd sp v (-3)) p (sp p + 1) := ux_uc (Ne.symm hvp)
        have key := x634a (x := 28) hp hst (by decide) h
        rw [← es] at key
        exact key
      · unfold wpY_killOther
        dsimp only
        rw [e4, ca, e]
        refine ⟨va, nm_e (br_f (ux_ne hvp (by omega) (by omega)) (ya_lv1 hv hvs (br_f (by decide) (ye_gen hJ hv hvs hx2 (ya_done hp (hQ _ ?_))))))⟩
        refine y262a hp rfl (by decide) ?_
        dsimp only
        rw [ux_un (Ne.symm hvp)]
        exact h
    · exact fails (Or.inr ⟨hself, hd⟩)
end UX21B
end
section
section UX22X
variable {ql pr : Int32} {ex : Int64} {kd ns np wo en st pp sp pc pg pn rg ds fi ow po pw pl qu ou : Nat → Int32}
variable {post : SX → Prop} {p k : Nat}
theorem xs_c107 (hp : p < 5) (hk : k < 5) (h : post (ql, pr, ex, kd, ns, np, wo, en, st, pp, sp, pc, pg, pn, rg, ux_cs ds (k * 4) (p * 4) 4, fi, ow, po, pw, pl, qu, ou)) : ∀ r i, i + r = 4 → wX_copyProcess_107 post (nI p) (nI k) ql pr ex (r + 1) (nI i) kd ns np wo en st pp sp pc pg pn rg (ux_cs ds (k * 4) (p * 4) i) fi ow po pw pl qu ou := by
  intro r
  induction r with
  | zero =>
    intro i hi
    have ei : i = 4 := by omega
    subst ei
    exact br_t (by decide) h
  | succ r ih =>
    intro i hi
    have H := ih (i + 1) (by omega)
    have e1 : nI p * 4 + nI i = nI (p * 4 + i) := by rw [ux_mul_l, nI_add]
    have e2 : nI k * 4 + nI i = nI (k * 4 + i) := by rw [ux_mul_l, nI_add]
    refine br_f (nI_ge (b := 4) (by omega) (by decide)) ?_
    rw [e1, e2, ux_c (n := p * 4 + i) (by omega), ux_c (n := k * 4 + i) (by omega)]
    exact ⟨vp_in_nI (by omega) (by decide), vp_in_nI (by omega) (by decide), nm_e (nm_r (nI_1 i) H)⟩
theorem xs_c74 (hp : p < 5) (hk : k < 5) (h : ∃ n, wX_copyProcess_107 post (nI p) (nI k) ql pr ex n 0 kd ns np wo en st pp sp pc pg pn (ux_cs rg (k * 4) (p * 4) 4) ds fi ow po pw pl qu ou) : ∀ r i, i + r = 4 → wX_copyProcess_74 post (nI p) (nI k) ql pr ex (r + 1) (nI i) kd ns np wo en st pp sp pc pg pn (ux_cs rg (k * 4) (p * 4) i) ds fi ow po pw pl qu ou := by
  intro r
  induction r with
  | zero =>
    intro i hi
    have ei : i = 4 := by omega
    subst ei
    exact br_t (by decide) h
  | succ r ih =>
    intro i hi
    have H := ih (i + 1) (by omega)
    have e1 : nI p * 4 + nI i = nI (p * 4 + i) := by rw [ux_mul_l, nI_add]
    have e2 : nI k * 4 + nI i = nI (k * 4 + i) := by rw [ux_mul_l, nI_add]
    refine br_f (nI_ge (b := 4) (by omega) (by decide)) ?_
    rw [e1, e2, ux_c (n := p * 4 + i) (by omega), ux_c (n := k * 4 + i) (by omega)]
    exact ⟨vp_in_nI (by omega) (by decide), vp_in_nI (by omega) (by decide), nm_e (nm_r (nI_1 i) H)⟩
theorem xs_c38 (hp : p < 5) (hk : k < 5) (h : ∃ n, wX_copyProcess_74 post (nI p) (nI k) ql pr ex n 0 kd ns np wo en st pp sp pc (ux_cs pg (k * 20) (p * 20) 20) pn rg ds fi ow po pw pl qu ou) : ∀ r i, i + r = 20 → wX_copyProcess_38 post (nI p) (nI k) ql pr ex (r + 1) (nI i) kd ns np wo en st pp sp pc (ux_cs pg (k * 20) (p * 20) i) pn rg ds fi ow po pw pl qu ou := by
  intro r
  induction r with
  | zero =>
    intro i hi
    have ei : i = 20 := by omega
    subst ei
    exact br_t (by decide) h
  | succ r ih =>
    intro i hi
    have H := ih (i + 1) (by omega)
    have e1 : nI p * 20 + nI i = nI (p * 20 + i) := by rw [ux_mul_l, nI_add]
    have e2 : nI k * 20 + nI i = nI (k * 20 + i) := by rw [ux_mul_l, nI_add]
    refine br_f (nI_ge (b := 20) (by omega) (by decide)) ?_
    rw [e1, e2, ux_c (n := p * 20 + i) (by omega), ux_c (n := k * 20 + i) (by omega)]
    exact ⟨vp_in_nI (by omega) (by decide), vp_in_nI (by omega) (by decide), nm_e (nm_r (nI_1 i) H)⟩
theorem xa_cp (hp : p < 5) (hk : k < 5) (hkp : k ≠ p) (h : post (ql, pr, ex, kd, ns, np, wo, en, st, pp, upd sp k (sp p), upd pc k (pc p), ux_cs pg (k * 20) (p * 20) 20, upd pn k (pn p), ux_c4 rg k p, ux_c4 ds k p, fi, ow, po, pw, pl, qu, ou)) : wpX_copyProcess post (ql, pr, ex, kd, ns, np, wo, en, st, pp, sp, pc, pg, pn, rg, ds, fi, ow, po, pw, pl, qu, ou) (nI p) (nI k) := by
  have iv : vp_in (nI p) 5 := vp_in_nI hp (by decide)
  have ik : vp_in (nI k) 5 := vp_in_nI hk (by decide)
  rw [← ux_cs_c4 hkp, ← ux_cs_c4 hkp] at h
  unfold wpX_copyProcess
  dsimp only
  rw [ux_c (n := p) (by omega), ux_c (n := k) (by omega)]
  exact ⟨iv, ik, nm_e ⟨iv, ik, nm_e ⟨iv, ik, nm_e ⟨21, xs_c38 hp hk ⟨5, xs_c74 hp hk ⟨5, xs_c107 hp hk h 4 0 (by omega)⟩ 4 0 (by omega)⟩ 20 0 (by omega)⟩⟩⟩⟩
end UX22X
section UX22Y
variable {ql pr go : Int32} {ex : Int64} {kd ns le wo en et np st qp sp pn pg rg ee ds pc fi ow po pl pw qu ou : Nat → Int32}
variable {post : Int32 → SY → Prop} {p k m : Nat}
theorem ys_f95 (hp : p < 5) (hk : k < 5) (hm : m < 6) (h : post (nI k) (nI (m + 1), ex, pr, go, kd, le, wo, et, np, upd st k 1, qp, sp, pn, pg, ux_cs rg (k * 4) (p * 4) 4, ux_cs ee (k * 4) (p * 4) 4, pc, fi, ow, po, pl, pw, upd qu m (nI k), ou)) : ∀ r i, i + r = 4 → wY_fork_95 post (nI p) (nI k) (nI m) ex pr go (r + 1) (nI i) kd le wo et np st qp sp pn pg (ux_cs rg (k * 4) (p * 4) i) (ux_cs ee (k * 4) (p * 4) i) pc fi ow po pl pw qu ou := by
  intro r
  induction r with
  | zero =>
    intro i hi
    have ei : i = 4 := by omega
    subst ei
    exact br_t (by decide) (ya_jq hk hm h)
  | succ r ih =>
    intro i hi
    have H := ih (i + 1) (by omega)
    have e1 : 4 * nI p + nI i = nI (p * 4 + i) := by rw [ux_l_mul, nI_add, Nat.mul_comm]
    have e2 : 4 * nI k + nI i = nI (k * 4 + i) := by rw [ux_l_mul, nI_add, Nat.mul_comm]
    refine br_f (nI_ge (b := 4) (by omega) (by decide)) ?_
    rw [e1, e2, ux_c (n := p * 4 + i) (by omega), ux_c (n := k * 4 + i) (by omega)]
    exact ⟨vp_in_nI (by omega) (by decide), vp_in_nI (by omega) (by decide), nm_e ⟨vp_in_nI (by omega) (by decide), vp_in_nI (by omega) (by decide), nm_e (nm_r (nI_1 i) H)⟩⟩
theorem ys_f59 (hp : p < 5) (hk : k < 5) (h : ∃ n, wY_fork_95 post (nI p) (nI k) ql ex pr go n 0 kd le wo et np st qp sp pn (ux_cs pg (k * 20) (p * 20) 20) rg ee pc fi ow po pl pw qu ou) : ∀ r i, i + r = 20 → wY_fork_59 post (nI p) (nI k) ql ex pr go (r + 1) (nI i) kd le wo et np st qp sp pn (ux_cs pg (k * 20) (p * 20) i) rg ee pc fi ow po pl pw qu ou := by
  intro r
  induction r with
  | zero =>
    intro i hi
    have ei : i = 20 := by omega
    subst ei
    exact br_t (by decide) h
  | succ r ih =>
    intro i hi
    have H := ih (i + 1) (by omega)
    have e1 : 20 * nI p + nI i = nI (p * 20 + i) := by rw [ux_l_mul, nI_add, Nat.mul_comm]
    have e2 : 20 * nI k + nI i = nI (k * 20 + i) := by rw [ux_l_mul, nI_add, Nat.mul_comm]
    refine br_f (nI_ge (b := 20) (by omega) (by decide)) ?_
    rw [e1, e2, ux_c (n := p * 20 + i) (by omega), ux_c (n := k * 20 + i) (by omega)]
    exact ⟨vp_in_nI (by omega) (by decide), vp_in_nI (by omega) (by decide), nm_e (nm_r (nI_1 i) H)⟩
theorem ya_fk (hp : p < 5) (hk : k < 5) (hkp : k ≠ p) (hm : m < 6) (h0 : st k = 0) (hj : ∀ j, j < k → st j ≠ 0) (h : post (nI k) (nI (m + 1), ex, pr, go, kd, le, wo, et, np, upd st k 1, upd qp k (nI p), upd sp k (sp p + 1), upd pn k (pn p), ux_cs pg (k * 20) (p * 20) 20, ux_c4 rg k p, ux_c4 ee k p, upd pc k (pc p), fi, ow, po, pl, pw, upd qu m (nI k), ou)) : wpY_fork post (nI m, ex, pr, go, kd, le, wo, et, np, st, qp, sp, pn, pg, rg, ee, pc, fi, ow, po, pl, pw, qu, ou) (nI p) := by
  have iv : vp_in (nI p) 5 := vp_in_nI hp (by decide)
  have ik : vp_in (nI k) 5 := vp_in_nI hk (by decide)
  rw [← ux_cs_c4 hkp, ← ux_cs_c4 hkp] at h
  unfold wpY_fork
  refine ya_fp hk h0 hj (br_t (nI_pos' (by omega)) ?_)
  rw [ux_c (n := p) (by omega), ux_c (n := k) (by omega)]
  exact ⟨ik, nm_e ⟨iv, ik, nm_e ⟨iv, ik, nm_e ⟨iv, ik, nm_e ⟨21, ys_f59 hp hk ⟨5, ys_f95 hp hk hm h 4 0 (by omega)⟩ 20 0 (by omega)⟩⟩⟩⟩⟩
end UX22Y
section UX22
variable {ql pr : Int32} {ex : Int64} {kd ns np wo en st pp sp pc pg pn rg ds fi ow po pw pl qu ou : Nat → Int32}
variable {qp : Nat → Int32} {go : Int32} {B p s l a b m c : Nat}
theorem op_10 (hJ : ux_J B kd ns np en ds fi ow po st pp qp pc pn pl qu m c) (hN : ux_N qu m p) (hs : st p = 1) (H : ux_in sp pn pg p s l a b 10) : ux_G (B + 1) p (nI m, nI c, ex + 1, kd, ns, np, wo, en, st, pp, sp, pc, pg, pn, rg, ds, fi, ow, po, pw, pl, qu, ou) ((nI m), ex, (nI c), go, kd, (ux_LN kd ns), wo, (ux_EN en), np, st, qp, sp, pn, pg, rg, (ux_ED ds), pc, fi, ow, po, pl, pw, qu, ou) := by
  obtain ⟨hF, hD, hO, hZ, hR, hU, hI, hL, hB⟩ := id hJ
  obtain ⟨hp, hi, ho, ha, ea, hb, eb⟩ := id H
  have cl : (nI p).toNatClampNeg = p := ux_c (by omega)
  have iv : vp_in (nI p) 5 := vp_in_nI hp (by decide)
  have ca : (nI (p * 4 + a)).toNatClampNeg = p * 4 + a := ux_c (by omega)
  have cb : (nI (p * 4 + b)).toNatClampNeg = p * 4 + b := ux_c (by omega)
  have c3 : (nI (p * 4 + 3)).toNatClampNeg = p * 4 + 3 := ux_c (by omega)
  have va : vp_in (nI (p * 4 + a)) 20 := vp_in_nI (by omega) (by decide)
  have vb : vp_in (nI (p * 4 + b)) 20 := vp_in_nI (by omega) (by decide)
  have v3 : vp_in (nI (p * 4 + 3)) 20 := vp_in_nI (by omega) (by decide)
  have e4 : 4 * nI p + nI a = nI (p * 4 + a) := by rw [ux_l_mul, nI_add, Nat.mul_comm]
  have f4 : 4 * nI p + nI b = nI (p * 4 + b) := by rw [ux_l_mul, nI_add, Nat.mul_comm]
  have x3 : nI p * 4 + 3 = nI (p * 4 + 3) := by rw [ux_mul_l, ux_add_l]
  have y3 : 4 * nI p + 3 = nI (p * 4 + 3) := by rw [ux_l_mul, ux_add_l, Nat.mul_comm]
  rcases ux_ls (fun j => st j = 0) 5 with ⟨k, hk, h0, hj⟩ | hno
  · obtain ⟨⟨d, hd, ed, hd2⟩, q, hq, eq⟩ := (hR p hp).2.2 (Or.inl hs)
    obtain ⟨hm, hJ2, hN2, hkp⟩ := ux_J_fork (d := d) (q := q) hJ hp hs hk h0 hd hd2 hq hN
    have ck : (nI k).toNatClampNeg = k := ux_c (by omega)
    have vk : vp_in (nI k) 5 := vp_in_nI hk (by decide)
    refine ux_G1 (r := 1) (go := 1) (m := m + 1) (qu := upd qu m (nI k)) (st := upd st k 1) (pp := upd pp k (nI p)) (qp := upd qp k (nI p)) (sp := upd (upd sp p (sp p + 1)) k (sp p + 1)) (pc := upd pc k (pc p)) (pn := upd pn k (pn p)) (pg := ux_cs pg (k * 20) (p * 20) 20) (ds := ux_c4 ds k p) (rg := upd (ux_c4 (upd rg (p * 4 + a) (-1)) k p) (p * 4 + a) (nI k)) (ex := ex + 1) (kd := kd) (ns := ns) (np := np) (wo := wo) (en := en) (fi := fi) (ow := ow) (po := po) (pw := pw) (pl := pl) (ou := ou) (c := c) (fun _ h => xj_10 H (fun Q hQ => ?_)) (fun _ h => yj_10 H (fun Q _ hQ => ?_)) (by rw [ed, eq]; exact ux_J_mono hJ2 (by omega)) hN2 (Or.inr ⟨rfl, by rw [ux_un (Ne.symm hkp)]; exact hs⟩)
    · unfold wpX_fork
      refine xa_fp hk h0 hj (br_t (nI_pos' (by omega)) ⟨va, ?_⟩)
      rw [ca]
      refine nm_e (xa_cp hp hk hkp ⟨va, ?_⟩)
      rw [ck, ux_us]
      exact nm_e ⟨vk, nm_e ⟨vk, nm_e (xa_jq hk hm (hQ _ (x634a hp (by rw [ux_un (Ne.symm hkp)]; exact hs) (by decide) h)))⟩⟩
    · rw [ux_ED_c4] at h
      refine ya_fk hp hk hkp (by omega) h0 hj (hQ k _ hk ?_)
      refine y262a hp rfl (by decide) ?_
      rw [ux_un (Ne.symm hkp), ← ux_uc (Ne.symm hkp), ← ux_fkr hkp ha]
      exact h
  · refine ux_G1 (r := 1) (go := 1) (rg := upd rg (p * 4 + a) (-2)) (sp := upd sp p (sp p + 1)) (ex := ex + 1) (kd := kd) (ns := ns) (np := np) (wo := wo) (en := en) (st := st) (pp := pp) (pc := pc) (pg := pg) (pn := pn) (ds := ds) (fi := fi) (ow := ow) (po := po) (pw := pw) (pl := pl) (qu := qu) (ou := ou) (qp := qp) (m := m) (c := c) (fun _ h => xj_10 H (fun Q hQ => ?_)) (fun _ h => yj_10 H (fun Q hQ _ => ?_)) (ux_J_mono hJ (by omega)) hN (Or.inr ⟨rfl, hs⟩)
    · unfold wpX_fork
      refine xa_fp0 hno (br_f (by decide) ⟨va, ?_⟩)
      rw [ca]
      exact nm_e (hQ _ (x634a hp hs (by decide) h))
    · unfold wpY_fork
      exact ya_fp0 hno (br_f (by decide) (hQ _ (y262a hp rfl (by decide) h)))
end UX22
end
section
section UX23X
variable {ql pr : Int32} {ex : Int64} {kd ns np wo en st pp sp pc pg pn rg ds fi ow po pw pl qu ou : Nat → Int32}
variable {post : SX → Prop} {n q g : Nat} {x : Int32}
theorem xa_pw1 (hn : n < 10) (hq : q < 20) (eg : ns n = nI q) (h : post (ql, pr, ex, kd, upd ns n (nI (q + 1)), np, upd wo (n * 20 + q) x, en, st, pp, sp, pc, pg, pn, rg, ds, fi, ow, po, pw, pl, qu, ou)) : wpX_putWord post (ql, pr, ex, kd, ns, np, wo, en, st, pp, sp, pc, pg, pn, rg, ds, fi, ow, po, pw, pl, qu, ou) (nI n) (nI q) x := by
  unfold wpX_putWord
  have e : nI n * 20 + nI q = nI (n * 20 + q) := by rw [ux_mul_l, nI_add]
  have vn : vp_in (nI n) 10 := vp_in_nI hn (by decide)
  dsimp only
  rw [e, ux_c (n := n * 20 + q) (by omega), ux_c (n := n) (by omega), eg, nI_1]
  exact ⟨vp_in_nI (by omega) (by decide), nm_e ⟨vn, br_t rfl ⟨vn, vn, nm_e h⟩⟩⟩
theorem xa_pw0 (hn : n < 10) (hq : q < 20) (hg : g ≤ 20) (hne : q ≠ g) (eg : ns n = nI g) (h : post (ql, pr, ex, kd, ns, np, upd wo (n * 20 + q) x, en, st, pp, sp, pc, pg, pn, rg, ds, fi, ow, po, pw, pl, qu, ou)) : wpX_putWord post (ql, pr, ex, kd, ns, np, wo, en, st, pp, sp, pc, pg, pn, rg, ds, fi, ow, po, pw, pl, qu, ou) (nI n) (nI q) x := by
  unfold wpX_putWord
  have e : nI n * 20 + nI q = nI (n * 20 + q) := by rw [ux_mul_l, nI_add]
  have vn : vp_in (nI n) 10 := vp_in_nI hn (by decide)
  dsimp only
  rw [e, ux_c (n := n * 20 + q) (by omega), ux_c (n := n) (by omega), eg]
  exact ⟨vp_in_nI (by omega) (by decide), nm_e ⟨vn, br_f (ux_ne hne (by omega) (by omega)) h⟩⟩
end UX23X
section UX23
variable {ql pr : Int32} {ex : Int64} {kd ns np wo en st pp sp pc pg pn rg ds fi ow po pw pl qu ou : Nat → Int32}
variable {qp : Nat → Int32} {go : Int32} {B p s l a b m c : Nat}
theorem op_16f (hJ : ux_J B kd ns np en ds fi ow po st pp qp pc pn pl qu m c) (hN : ux_N qu m p) (hs : st p = 1) (H : ux_in sp pn pg p s l a b 16) {w : Int32} (hv : ux_hv ds p (rg (p * 4 + b)) w)
    (hw : (∃ t, w = nI t ∧ (t < 8192 ∨ 8192 + 2 ≤ t) ∧ t < 100000 ∧ (t < 1 ∨ 9 ≤ t) ∧ ∃ t2, ux_cv w = nI t2 ∧ (t2 < 201 ∨ 202 < t2) ∧ (t2 < 1 ∨ 8 < t2) ∧ t2 < 100000) ∨ (∃ o, o < 8 ∧ w = nI (1 + o) ∧ (ow o = 0 ∨ (ow o ≠ 0 ∧ ∃ n q g, n < 10 ∧ fi o = nI n ∧ kd n = 1 ∧ q ≤ 20 ∧ po o = nI q ∧ g ≤ 20 ∧ ns n = nI g ∧ (20 ≤ q ∨ g < q))))) : ux_G (B + 1) p (nI m, nI c, ex + 1, kd, ns, np, wo, en, st, pp, sp, pc, pg, pn, rg, ds, fi, ow, po, pw, pl, qu, ou) ((nI m), ex, (nI c), go, kd, (ux_LN kd ns), wo, (ux_EN en), np, st, qp, sp, pn, pg, rg, (ux_ED ds), pc, fi, ow, po, pl, pw, qu, ou) := by
  obtain ⟨hF, hD, hO, hZ, hR, hU, hI, hL, hB⟩ := id hJ
  obtain ⟨hp, hi, ho, ha, ea, hb, eb⟩ := id H
  have cl : (nI p).toNatClampNeg = p := ux_c (by omega)
  have iv : vp_in (nI p) 5 := vp_in_nI hp (by decide)
  have ca : (nI (p * 4 + a)).toNatClampNeg = p * 4 + a := ux_c (by omega)
  have cb : (nI (p * 4 + b)).toNatClampNeg = p * 4 + b := ux_c (by omega)
  have c3 : (nI (p * 4 + 3)).toNatClampNeg = p * 4 + 3 := ux_c (by omega)
  have va : vp_in (nI (p * 4 + a)) 20 := vp_in_nI (by omega) (by decide)
  have vb : vp_in (nI (p * 4 + b)) 20 := vp_in_nI (by omega) (by decide)
  have v3 : vp_in (nI (p * 4 + 3)) 20 := vp_in_nI (by omega) (by decide)
  have e4 : 4 * nI p + nI a = nI (p * 4 + a) := by rw [ux_l_mul, nI_add, Nat.mul_comm]
  have f4 : 4 * nI p + nI b = nI (p * 4 + b) := by rw [ux_l_mul, nI_add, Nat.mul_comm]
  have x3 : nI p * 4 + 3 = nI (p * 4 + 3) := by rw [ux_mul_l, ux_add_l]
  have y3 : 4 * nI p + 3 = nI (p * 4 + 3) := by rw [ux_l_mul, ux_add_l, Nat.mul_comm]
  refine ux_G1 (r := 1) (go := 1) (rg := upd rg (p * 4 + 3) (-1)) (sp := upd sp p (sp p + 1)) (ex := ex + 1) (kd := kd) (ns := ns) (np := np) (wo := wo) (en := en) (st := st) (pp := pp) (pc := pc) (pg := pg) (pn := pn) (ds := ds) (fi := fi) (ow := ow) (po := po) (pw := pw) (pl := pl) (qu := qu) (ou := ou) (qp := qp) (m := m) (c := c) (fun _ h => xj_16 H (fun Q hQ => ?_)) (fun _ h => yj_16 H (fun Q hQ => ?_)) (ux_J_mono hJ (by omega)) hN (Or.inr ⟨rfl, hs⟩)
  · have hX : wX_write_93 Q (nI p) (nI m) (nI c) (ex + 1) kd ns np wo en st pp (upd sp p (sp p + 1)) pc pg pn rg ds fi ow po pw pl qu ou := xa_fail hp (hQ _ (x634a hp hs (by decide) h))
    have hX2 := hQ (nI m, nI c, ex + 1, kd, ns, np, wo, en, st, pp, upd sp p (sp p + 1), pc, pg, pn, upd rg (p * 4 + 3) (-1), ds, fi, ow, po, pw, pl, qu, ou) (x634a hp hs (by decide) h)
    unfold wpX_write
    dsimp only
    rw [cb]
    refine ⟨vb, xa_ha hp hv ?_⟩
    rcases hw with ⟨t, e1, h1, h2, h3, _⟩ | ⟨o, ho8, e1, h1⟩
    · rw [e1]
      exact xa_pN (e := 8192) h1 h2 (by omega) (br_t (by decide) (xa_io0 h3 h2 (br_t rfl hX)))
    · rw [e1]
      refine xa_pN (e := 8192) (by omega) (by omega) (by omega) (br_t (by decide) (xa_io1 (by omega) (by omega) (br_f (by decide) ?_)))
      rw [ux_so, ux_c (n := o) (by omega)]
      refine ⟨vp_in_nI ho8 (by decide), ?_⟩
      rcases h1 with h1 | ⟨h1, n, q, g, hn, en', hk, hq, eq, hg, eg, hbad⟩
      · exact br_t h1 hX
      · refine br_f h1 ⟨va, ?_⟩
        have vo : vp_in (nI o) 8 := vp_in_nI ho8 (by decide)
        unfold wpX_writeFile
        dsimp only
        rw [ux_c (n := o) (by omega), ca]
        refine ⟨vo, nm_r en' ⟨vo, nm_r eq ?_⟩⟩
        rw [x3, c3]
        by_cases h20 : 20 ≤ q
        · exact br_t (nI_le (a := 20) h20 (by omega)) ⟨v3, nm_e hX2⟩
        · refine br_f (nI_ge (b := 20) (by omega) (by decide)) ⟨vp_in_nI hn (by decide), ?_⟩
          rw [ux_c (n := n) (by omega), eg]
          exact br_f (nI_ge (by omega) (by omega)) ⟨v3, nm_e hX2⟩
  · have hX : wY_write_192 Q (nI p) (nI m) (ex + 1) (nI c) 1 kd (ux_LN kd ns) wo (ux_EN en) np st qp sp pn pg rg (ux_ED ds) pc fi ow po pl pw qu ou := ya_fail hp (hQ _ (y262a hp rfl (by decide) h))
    unfold wpY_write
    refine ya_eO hp hb hv ?_
    rw [e4, ca]
    refine ⟨va, nm_e ?_⟩
    rcases hw with ⟨t, _, _, _, _, t2, e1, h1, h2, h3⟩ | ⟨o, ho8, e1, h1⟩
    · rw [e1]
      refine ya_inO (b := 201) (e := 202) h1 h3 (by omega) (br_t rfl (ya_inO (b := 1) (e := 8) h2 h3 (by omega) (br_t rfl ?_)))
      exact ⟨vp_in_iff.mpr (by decide), nm_e (ya_inO (b := 1) (e := 8) h2 h3 (by omega) (br_t rfl hX))⟩
    · rw [e1, ux_cvo o ho8]
      refine ya_inO (b := 201) (e := 202) (by omega) (by omega) (by omega) (br_t rfl (ya_inN (b := 1) (e := 8) (by omega) (by omega) (by omega) (br_f (by decide) ?_)))
      have vo : vp_in (nI o) 8 := vp_in_nI ho8 (by decide)
      rw [ux_so o]
      unfold wY_write_130
      rw [ux_c (n := o) (by omega)]
      refine ⟨vo, nm_e (ya_inN (b := 1) (e := 8) (by omega) (by omega) (by omega) (br_f (by decide) ⟨vo, ?_⟩))⟩
      rcases h1 with h1 | ⟨h1, n, q, g, hn, en', hk, hq, eq, hg, eg, hbad⟩
      · exact br_t h1 hX
      · rw [en', eq, ux_c (n := n) (by omega), ux_LN_f (by rw [hk]; exact ux_n12), eg]
        refine br_f h1 ⟨vo, vp_in_nI hn (by decide), ?_⟩
        by_cases hgq : g < q
        · exact br_t (nI_lt hgq (by omega)) hX
        · refine br_f (nI_nlt (by omega) (by omega)) ⟨vo, br_t ?_ hX⟩
          have : q = 20 := by omega
          rw [this]; rfl
theorem op_16o (hJ : ux_J B kd ns np en ds fi ow po st pp qp pc pn pl qu m c) (hN : ux_N qu m p) (hs : st p = 1) (H : ux_in sp pn pg p s l a b 16) {o n q g : Nat} (ho8 : o < 8) (hv : ux_hv ds p (rg (p * 4 + b)) (nI (1 + o))) (how : ow o ≠ 0) (hn : n < 10) (en' : fi o = nI n) (hk : kd n = 1) (hq : q < 20) (eq : po o = nI q) (hg : g ≤ 20) (eg : ns n = nI g) (hqg : q ≤ g) : ux_G (B + 1) p (nI m, nI c, ex + 1, kd, ns, np, wo, en, st, pp, sp, pc, pg, pn, rg, ds, fi, ow, po, pw, pl, qu, ou) ((nI m), ex, (nI c), go, kd, (ux_LN kd ns), wo, (ux_EN en), np, st, qp, sp, pn, pg, rg, (ux_ED ds), pc, fi, ow, po, pl, pw, qu, ou) := by
  obtain ⟨hF, hD, hO, hZ, hR, hU, hI, hL, hB⟩ := id hJ
  obtain ⟨hp, hi, ho, ha, ea, hb, eb⟩ := id H
  have cl : (nI p).toNatClampNeg = p := ux_c (by omega)
  have iv : vp_in (nI p) 5 := vp_in_nI hp (by decide)
  have ca : (nI (p * 4 + a)).toNatClampNeg = p * 4 + a := ux_c (by omega)
  have cb : (nI (p * 4 + b)).toNatClampNeg = p * 4 + b := ux_c (by omega)
  have c3 : (nI (p * 4 + 3)).toNatClampNeg = p * 4 + 3 := ux_c (by omega)
  have va : vp_in (nI (p * 4 + a)) 20 := vp_in_nI (by omega) (by decide)
  have vb : vp_in (nI (p * 4 + b)) 20 := vp_in_nI (by omega) (by decide)
  have v3 : vp_in (nI (p * 4 + 3)) 20 := vp_in_nI (by omega) (by decide)
  have e4 : 4 * nI p + nI a = nI (p * 4 + a) := by rw [ux_l_mul, nI_add, Nat.mul_comm]
  have f4 : 4 * nI p + nI b = nI (p * 4 + b) := by rw [ux_l_mul, nI_add, Nat.mul_comm]
  have x3 : nI p * 4 + 3 = nI (p * 4 + 3) := by rw [ux_mul_l, ux_add_l]
  have y3 : 4 * nI p + 3 = nI (p * 4 + 3) := by rw [ux_l_mul, ux_add_l, Nat.mul_comm]
  have co : (nI o).toNatClampNeg = o := ux_c (by omega)
  have vo : vp_in (nI o) 8 := vp_in_nI ho8 (by decide)
  have cn : (nI n).toNatClampNeg = n := ux_c (by omega)
  have vn : vp_in (nI n) 10 := vp_in_nI hn (by decide)
  have es : nI (1 + o) - 1 = nI o := ux_so o
  have eL : ux_LN kd ns n = nI g := by rw [ux_LN_f (by rw [hk]; exact ux_n12), eg]
  have y20 : 20 * nI n + nI q = nI (n * 20 + q) := by rw [ux_l_mul, nI_add, Nat.mul_comm]
  have cq : (nI (n * 20 + q)).toNatClampNeg = n * 20 + q := ux_c (by omega)
  have vq : vp_in (nI (n * 20 + q)) 200 := vp_in_nI (by omega) (by decide)
  by_cases hne : q = g
  · subst hne
    refine ux_G1 (r := 1) (go := 1) (rg := upd rg (p * 4 + 3) 1) (wo := upd wo (n * 20 + q) (rg (p * 4 + a))) (ns := upd ns n (nI (q + 1))) (po := upd po o (nI (q + 1))) (sp := upd sp p (sp p + 1)) (ex := ex + 1) (kd := kd) (np := np) (en := en) (st := st) (pp := pp) (pc := pc) (pg := pg) (pn := pn) (ds := ds) (fi := fi) (ow := ow) (pw := pw) (pl := pl) (qu := qu) (ou := ou) (qp := qp) (m := m) (c := c) (fun _ h => xj_16 H (fun Q hQ => ?_)) (fun _ h => yj_16 H (fun Q hQ => ?_)) (ux_J_mono (ux_J_po (ux_J_ns hJ hk (by omega)) (by omega)) (by omega)) hN (Or.inr ⟨rfl, hs⟩)
    · unfold wpX_write
      dsimp only
      rw [cb]
      refine ⟨vb, xa_ha hp hv (xa_pN (e := 8192) (by omega) (by omega) (by omega) (br_t (by decide) (xa_io1 (by omega) (by omega) (br_f (by decide) ?_))))⟩
      rw [es, co, ca]
      refine ⟨vo, br_f how ⟨va, ?_⟩⟩
      unfold wpX_writeFile
      dsimp only
      rw [co]
      refine ⟨vo, nm_r en' ⟨vo, nm_r eq (br_f (nI_ge (b := 20) hq (by decide)) ⟨vn, ?_⟩)⟩⟩
      rw [cn, eg]
      refine br_t (nI_le (Nat.le_refl _) (by omega)) (xa_pw1 hn hq eg ⟨vo, vo, ?_⟩)
      dsimp only
      rw [eq, nI_1]
      refine nm_e ⟨by rw [x3]; exact v3, ?_⟩
      rw [x3, c3]
      exact nm_e (hQ _ (x634a hp hs (by decide) h))
    · rw [ux_LN_u (by rw [hk]; exact ux_n12)] at h
      unfold wpY_write
      refine ya_eO hp hb hv ?_
      rw [e4, ca, ux_cvo o ho8]
      refine ⟨va, nm_e (ya_inO (b := 201) (e := 202) (by omega) (by omega) (by omega) (br_t rfl (ya_inN (b := 1) (e := 8) (by omega) (by omega) (by omega) (br_f (by decide) ?_))))⟩
      rw [es]
      unfold wY_write_130
      rw [co, en']
      refine ⟨vo, nm_e (ya_inN (b := 1) (e := 8) (by omega) (by omega) (by omega) (br_f (by decide) ⟨vo, br_f how ⟨vo, ?_⟩⟩))⟩
      rw [cn, eL, eq, y20, cq, nI_1]
      refine ⟨vn, br_f (nI_nlt (Nat.le_refl _) (by omega)) ⟨vo, br_f (ux_ne (b := 20) (by omega) (by omega) (by omega)) ⟨vo, vq, nm_e ⟨vo, vn, br_t rfl ⟨vn, vn, nm_e ?_⟩⟩⟩⟩⟩
      unfold wY_write_246
      rw [co, eq, nI_1]
      exact ⟨vo, vo, nm_e (ya_done hp (hQ _ (y262a hp rfl (by decide) h)))⟩
  · refine ux_G1 (r := 1) (go := 1) (rg := upd rg (p * 4 + 3) 1) (wo := upd wo (n * 20 + q) (rg (p * 4 + a))) (po := upd po o (nI (q + 1))) (sp := upd sp p (sp p + 1)) (ex := ex + 1) (kd := kd) (ns := ns) (np := np) (en := en) (st := st) (pp := pp) (pc := pc) (pg := pg) (pn := pn) (ds := ds) (fi := fi) (ow := ow) (pw := pw) (pl := pl) (qu := qu) (ou := ou) (qp := qp) (m := m) (c := c) (fun _ h => xj_16 H (fun Q hQ => ?_)) (fun _ h => yj_16 H (fun Q hQ => ?_)) (ux_J_mono (ux_J_po hJ (by omega)) (by omega)) hN (Or.inr ⟨rfl, hs⟩)
    · unfold wpX_write
      dsimp only
      rw [cb]
      refine ⟨vb, xa_ha hp hv (xa_pN (e := 8192) (by omega) (by omega) (by omega) (br_t (by decide) (xa_io1 (by omega) (by omega) (br_f (by decide) ?_))))⟩
      rw [es, co, ca]
      refine ⟨vo, br_f how ⟨va, ?_⟩⟩
      unfold wpX_writeFile
      dsimp only
      rw [co]
      refine ⟨vo, nm_r en' ⟨vo, nm_r eq (br_f (nI_ge (b := 20) hq (by decide)) ⟨vn, ?_⟩)⟩⟩
      rw [cn, eg]
      refine br_t (nI_le hqg (by omega)) (xa_pw0 hn hq hg hne eg ⟨vo, vo, ?_⟩)
      dsimp only
      rw [eq, nI_1]
      refine nm_e ⟨by rw [x3]; exact v3, ?_⟩
      rw [x3, c3]
      exact nm_e (hQ _ (x634a hp hs (by decide) h))
    · unfold wpY_write
      refine ya_eO hp hb hv ?_
      rw [e4, ca, ux_cvo o ho8]
      refine ⟨va, nm_e (ya_inO (b := 201) (e := 202) (by omega) (by omega) (by omega) (br_t rfl (ya_inN (b := 1) (e := 8) (by omega) (by omega) (by omega) (br_f (by decide) ?_))))⟩
      rw [es]
      unfold wY_write_130
      rw [co, en']
      refine ⟨vo, nm_e (ya_inN (b := 1) (e := 8) (by omega) (by omega) (by omega) (br_f (by decide) ⟨vo, br_f how ⟨vo, ?_⟩⟩))⟩
      rw [cn, eL, eq, y20, cq]
      refine ⟨vn, br_f (nI_nlt hqg (by omega)) ⟨vo, br_f (ux_ne (b := 20) (by omega) (by omega) (by omega)) ⟨vo, vq, nm_e ⟨vo, vn, br_f (ux_ne hne (by omega) (by omega)) ?_⟩⟩⟩⟩
      unfold wY_write_246
      rw [co, eq, nI_1]
      exact ⟨vo, vo, nm_e (ya_done hp (hQ _ (y262a hp rfl (by decide) h)))⟩
theorem op_16p (hJ : ux_J B kd ns np en ds fi ow po st pp qp pc pn pl qu m c) (hN : ux_N qu m p) (hs : st p = 1) (H : ux_in sp pn pg p s l a b 16) {k : Nat} (hk : k < 2) (hv : ux_hv ds p (rg (p * 4 + b)) (nI (8192 + k))) (hnw : ux_hd ds (nI (4096 + k)) → pl k ≠ 4) : ux_G (B + 1) p (nI m, nI c, ex + 1, kd, ns, np, wo, en, st, pp, sp, pc, pg, pn, rg, ds, fi, ow, po, pw, pl, qu, ou) ((nI m), ex, (nI c), go, kd, (ux_LN kd ns), wo, (ux_EN en), np, st, qp, sp, pn, pg, rg, (ux_ED ds), pc, fi, ow, po, pl, pw, qu, ou) := by
  obtain ⟨hF, hD, hO, hZ, hR, hU, hI, hL, hB⟩ := id hJ
  obtain ⟨hp, hi, ho, ha, ea, hb, eb⟩ := id H
  have cl : (nI p).toNatClampNeg = p := ux_c (by omega)
  have iv : vp_in (nI p) 5 := vp_in_nI hp (by decide)
  have ca : (nI (p * 4 + a)).toNatClampNeg = p * 4 + a := ux_c (by omega)
  have cb : (nI (p * 4 + b)).toNatClampNeg = p * 4 + b := ux_c (by omega)
  have c3 : (nI (p * 4 + 3)).toNatClampNeg = p * 4 + 3 := ux_c (by omega)
  have va : vp_in (nI (p * 4 + a)) 20 := vp_in_nI (by omega) (by decide)
  have vb : vp_in (nI (p * 4 + b)) 20 := vp_in_nI (by omega) (by decide)
  have v3 : vp_in (nI (p * 4 + 3)) 20 := vp_in_nI (by omega) (by decide)
  have e4 : 4 * nI p + nI a = nI (p * 4 + a) := by rw [ux_l_mul, nI_add, Nat.mul_comm]
  have f4 : 4 * nI p + nI b = nI (p * 4 + b) := by rw [ux_l_mul, nI_add, Nat.mul_comm]
  have x3 : nI p * 4 + 3 = nI (p * 4 + 3) := by rw [ux_mul_l, ux_add_l]
  have y3 : 4 * nI p + 3 = nI (p * 4 + 3) := by rw [ux_l_mul, ux_add_l, Nat.mul_comm]
  have es : nI (201 + k) - 201 = nI k := ux_s201 k
  have e1 : nI (201 + k) - 100 = nI (101 + k) := ux_s100 k
  have ck : (nI k).toNatClampNeg = k := ux_c (by omega)
  have vk : vp_in (nI k) 2 := vp_in_nI hk (by decide)
  by_cases hh : ux_hd ds (nI (4096 + k))
  · obtain ⟨g, hg, eg⟩ := hI k hk
    have hg4 : g < 4 := by
      have h4 := hnw hh
      by_cases z : g = 4
      · rw [eg, z] at h4; exact absurd rfl h4
      · omega
    have xg : nI k * 4 + nI g = nI (k * 4 + g) := by rw [ux_mul_l, nI_add]
    have yg : 4 * nI k + nI g = nI (k * 4 + g) := by rw [ux_l_mul, nI_add, Nat.mul_comm]
    have cg : (nI (k * 4 + g)).toNatClampNeg = k * 4 + g := ux_c (by omega)
    have vg : vp_in (nI (k * 4 + g)) 8 := vp_in_nI (by omega) (by decide)
    refine ux_G1 (r := 1) (go := 1) (rg := upd rg (p * 4 + 3) 1) (pw := upd pw (k * 4 + g) (rg (p * 4 + a))) (pl := upd pl k (nI (g + 1))) (sp := upd sp p (sp p + 1)) (ex := ex + 1) (kd := kd) (ns := ns) (np := np) (wo := wo) (en := en) (st := st) (pp := pp) (pc := pc) (pg := pg) (pn := pn) (ds := ds) (fi := fi) (ow := ow) (po := po) (qu := qu) (ou := ou) (qp := qp) (m := m) (c := c) (fun _ h => xj_16 H (fun Q hQ => ?_)) (fun _ h => yj_16 H (fun Q hQ => ?_)) (ux_J_mono (ux_J_pl hJ (by omega)) (by omega)) hN (Or.inr ⟨rfl, hs⟩)
    · unfold wpX_write
      dsimp only
      rw [cb, ca]
      refine ⟨vb, xa_ha hp hv (xa_pY (e := 8192) hk (by omega) (br_f (nI_pos (by omega)) ⟨va, ?_⟩))⟩
      unfold wpX_writePipe
      dsimp only
      rw [ux_l_add]
      refine xa_ih1 hh (br_f (by decide) ⟨vk, ?_⟩)
      rw [ck, eg, xg, cg, x3, c3, nI_1]
      exact br_f (nI_ge (b := 4) hg4 (by decide)) ⟨vk, vg, nm_e ⟨vk, vk, nm_e ⟨v3, nm_e (hQ _ (x634a hp hs (by decide) h))⟩⟩⟩
    · unfold wpY_write
      refine ya_eO hp hb hv ?_
      rw [e4, ca, ux_cvw k hk, e1, es]
      refine ⟨va, nm_e (ya_inN (b := 201) (e := 202) (by omega) (by omega) (by omega) (br_f (by decide) (ya_h1 ((ux_hd_r hD hk).mpr hh) (br_f (by decide) ⟨vk, ?_⟩))))⟩
      rw [ck, eg, yg, cg, nI_1]
      exact ⟨vg, nm_e ⟨vk, vk, nm_e (ya_done hp (hQ _ (y262a hp rfl (by decide) h)))⟩⟩
  · obtain ⟨x, hx, hx1, hx2, hown⟩ := ux_px hR hp (Or.inl hs)
    refine ux_G2 (r := 0) (go := 0) (ds := ux_zp ds p) (pp := ux_p1 pp p 5) (qp := ux_p2 st qp p 5) (st := upd (ux_s1 st pp p 5) p x) (sp := upd sp p (-2)) (ex := ex + 1) (kd := kd) (ns := ns) (np := np) (wo := wo) (en := en) (pc := pc) (pg := pg) (pn := pn) (rg := rg) (fi := fi) (ow := ow) (po := po) (pw := pw) (pl := pl) (qu := qu) (ou := ou) (m := m) (c := c) (fun _ h => xj_16 H (fun Q hQ => ?_)) (fun _ h => yj_16 H (fun Q hQ => ?_)) (ux_D_zp hD) (ux_J_mono (ux_J_end hJ hp (Or.inl hs) hx hU hN) (by omega)) hN (Or.inl rfl)
    · unfold wpX_write
      dsimp only
      rw [cb, ca]
      refine ⟨vb, xa_ha hp hv (xa_pY (e := 8192) hk (by omega) (br_f (nI_pos (by omega)) ⟨va, ?_⟩))⟩
      unfold wpX_writePipe
      dsimp only
      rw [ux_l_add]
      refine xa_ih0 hh (br_t rfl (xa_en hp hown hx1 (hQ _ ?_)))
      have key := x634e (x := 16) (st := upd (ux_s1 st pp p 5) p x) hp (by rw [ux_us]; exact ux_x1 hx) h
      rw [← ux_uu (f := sp) (k := p) (x := sp p + 1)] at key
      exact key
    · unfold wpY_write
      refine ya_eO hp hb hv ?_
      rw [e4, ca, ux_cvw k hk, e1]
      exact ⟨va, nm_e (ya_inN (b := 201) (e := 202) (by omega) (by omega) (by omega) (br_f (by decide) (ya_h0 (fun z => hh ((ux_hd_r hD hk).mp z)) (br_t rfl (ye_self hJ hN hp (Or.inl hs) hx2 (hQ _ (y262e rfl h)))))))⟩
theorem op_16 (hJ : ux_J B kd ns np en ds fi ow po st pp qp pc pn pl qu m c) (hN : ux_N qu m p) (hs : st p = 1) (H : ux_in sp pn pg p s l a b 16) (hnw : ux_NW pg rg ds pl p s) : ux_G (B + 1) p (nI m, nI c, ex + 1, kd, ns, np, wo, en, st, pp, sp, pc, pg, pn, rg, ds, fi, ow, po, pw, pl, qu, ou) ((nI m), ex, (nI c), go, kd, (ux_LN kd ns), wo, (ux_EN en), np, st, qp, sp, pn, pg, rg, (ux_ED ds), pc, fi, ow, po, pl, pw, qu, ou) := by
  obtain ⟨hF, hD, hO, hZ, hR, hU, hI, hL, hB⟩ := id hJ
  obtain ⟨hp, hi, ho, ha, ea, hb, eb⟩ := id H
  obtain ⟨w, hv, hV⟩ := ux_hvE hD hp (rg (p * 4 + b))
  rcases id hV with h | ⟨o, ho8, h⟩ | ⟨k, hk, h⟩ | ⟨k, hk, h⟩
  · exact op_16f hJ hN hs H hv (Or.inl ⟨0, h, by omega, by omega, by omega, 0, by rw [h, ux_cv0]; rfl, by omega, by omega, by omega⟩)
  · have hx : ∃ d, d < 20 ∧ ds d = nI (1 + o) := by
      rcases id hv with ⟨d, hd, _, e2⟩ | ⟨_, e2⟩
      · exact ⟨p * 4 + d, by omega, by rw [← e2]; exact h⟩
      · rw [e2] at h; exact absurd h.symm (ux_nz (by omega) (by omega))
    obtain ⟨d, hd, e⟩ := hx
    obtain ⟨⟨n, n0, n1, n2, n3⟩, how, q, hq, eq⟩ := hO d o hd ho8 e
    obtain ⟨g, hg, eg⟩ := (hF.2.2.2.2 n n1).2 n3
    by_cases h0 : ow o = 0
    · exact op_16f hJ hN hs H hv (Or.inr ⟨o, ho8, h, Or.inl h0⟩)
    · by_cases hbad : 20 ≤ q ∨ g < q
      · exact op_16f hJ hN hs H hv (Or.inr ⟨o, ho8, h, Or.inr ⟨h0, n, q, g, n1, n2, n3, hq, eq, hg, eg, hbad⟩⟩)
      · subst h
        exact op_16o hJ hN hs H ho8 hv h0 n1 n2 n3 (by omega) eq hg eg (by omega)
  · exact op_16f hJ hN hs H hv (Or.inl ⟨4096 + k, h, by omega, by omega, by omega, 101 + k, by rw [h, ux_cvr k hk], by omega, by omega, by omega⟩)
  · subst h
    exact op_16p hJ hN hs H hk hv (fun hh => hnw b k hb hk ho eb hv hh)
end UX23
end
section
section UX24A
variable {ql pr : Int32} {ex : Int64} {kd ns np wo en st pp sp pc pg pn rg ds fi ow po pw pl qu ou : Nat → Int32}
variable {post : Int32 → SX → Prop} {d a n c e : Nat} {r t : Int32}
/-- a new node n can be entered into d by the name r = a; or it can't -/
def ux_CE (kd en : Nat → Int32) (d : Nat) (r : Int32) (a n : Nat) : Prop := a < 15 ∧ r = nI a ∧ en (d * 15 + a) = 0 ∧ 0 < n ∧ n < 10 ∧ kd n = 0 ∧ (∀ j, j < n → kd j ≠ 0) ∧ ux_cn en d < 6
def ux_NC (kd en : Nat → Int32) (d : Nat) (r : Int32) : Prop := (r < 0 ∨ (¬ r < 0 ∧ nI 15 ≤ r)) ∨ ∃ a, a < 15 ∧ r = nI a ∧ (en (d * 15 + a) ≠ 0 ∨ (en (d * 15 + a) = 0 ∧ ((∀ j, j < 10 → kd j ≠ 0) ∨ ((∃ n, 0 < n ∧ n < 10 ∧ kd n = 0 ∧ ∀ j, j < n → kd j ≠ 0) ∧ 6 ≤ ux_cn en d))))
theorem ux_frn (hK : ux_K kd) : (∃ n, 0 < n ∧ n < 10 ∧ kd n = 0 ∧ ∀ j, j < n → kd j ≠ 0) ∨ ∀ j, j < 10 → kd j ≠ 0 := by
  rcases ux_ls (fun j => kd j = 0) 10 with ⟨n, hn, h0, hj⟩ | h
  · refine Or.inl ⟨n, ?_, hn, h0, hj⟩
    rcases Nat.eq_zero_or_pos n with z | z
    · rw [z, hK.1] at h0; exact absurd h0 (by decide)
    · exact z
  · exact Or.inr h
theorem ux_CEN (hF : ux_FS kd ns np en) (d : Nat) (r : Int32) : (∃ a n, ux_CE kd en d r a n) ∨ ux_NC kd en d r := by
  rcases ux_rg r 15 (by decide) with ⟨a, ha, e⟩ | h
  · by_cases h0 : en (d * 15 + a) = 0
    · rcases ux_frn hF.1 with ⟨n, n0, n1, n2, n3⟩ | h
      · by_cases hc : ux_cn en d < 6
        · exact Or.inl ⟨a, n, ha, e, h0, n0, n1, n2, n3, hc⟩
        · exact Or.inr (Or.inr ⟨a, ha, e, Or.inr ⟨h0, Or.inr ⟨⟨n, n0, n1, n2, n3⟩, by omega⟩⟩⟩)
      · exact Or.inr (Or.inr ⟨a, ha, e, Or.inr ⟨h0, Or.inl h⟩⟩)
    · exact Or.inr (Or.inr ⟨a, ha, e, Or.inl h0⟩)
  · exact Or.inr (Or.inl h)
theorem xa_et {post : SX → Prop} (hd : d < 10) (ha : a < 15) (h : post (ql, pr, ex, kd, upd ns d (ns d + 1), np, wo, upd en (d * 15 + a) t, st, pp, sp, pc, pg, pn, rg, ds, fi, ow, po, pw, pl, qu, ou)) : wpX_enter post (ql, pr, ex, kd, ns, np, wo, en, st, pp, sp, pc, pg, pn, rg, ds, fi, ow, po, pw, pl, qu, ou) (nI d) (nI a) t := by
  unfold wpX_enter
  have e : nI d * 15 + nI a = nI (d * 15 + a) := by rw [ux_mul_l, nI_add]
  have vd : vp_in (nI d) 10 := vp_in_nI hd (by decide)
  rw [e, ux_c (n := d * 15 + a) (by omega), ux_c (n := d) (by omega)]
  exact ⟨vp_in_nI (by omega) (by decide), nm_e ⟨vd, vd, nm_e h⟩⟩
theorem xa_mk1 (hd : d < 10) (eS : ns d = nI (ux_cn en d)) (hc : ux_CE kd en d r a n) (h : post (nI n) (ql, pr, ex, upd kd n t, upd (upd ns n 0) d (upd ns n 0 d + 1), upd np n (nI d), wo, upd en (d * 15 + a) (nI n), st, pp, sp, pc, pg, pn, rg, ds, fi, ow, po, pw, pl, qu, ou)) : wpX_makeNode post (ql, pr, ex, kd, ns, np, wo, en, st, pp, sp, pc, pg, pn, rg, ds, fi, ow, po, pw, pl, qu, ou) (nI d) r t := by
  obtain ⟨h1, h2, h3, h4, h5, h6, h7, h8⟩ := hc
  have vn : vp_in (nI n) 10 := vp_in_nI h5 (by decide)
  unfold wpX_makeNode
  refine xa_fr h5 h6 h7 (br_f (ux_nz h4 (by omega)) (xa_ce1 hd ⟨h1, h2, eS, h8, h3⟩ (br_f (by decide) ⟨vn, ?_⟩)))
  rw [ux_c (n := n) (by omega), h2]
  exact nm_e ⟨vn, nm_e ⟨vn, nm_e (xa_et hd h1 h)⟩⟩
theorem ux_NC0 (eS : ns d = nI (ux_cn en d)) (h : ux_NC kd en d r) (hn : 0 < n) (hn2 : n < 10) (hk : kd n = 0) : ux_cn0 ns en d r := by
  have hle := ux_ct_le (fun j => en (d * 15 + j)) 15
  have hle2 : ux_cn en d ≤ 15 := hle
  rcases h with h | ⟨a, ha, e, h⟩
  · exact Or.inl h
  · refine Or.inr ⟨a, ha, e, ?_⟩
    by_cases h6 : ux_cn en d < 6
    · rcases h with h | ⟨_, h | ⟨_, h⟩⟩
      · exact Or.inr ⟨⟨_, h6, eS⟩, h⟩
      · exact absurd hk (h n hn2)
      · omega
    · exact Or.inl ⟨_, by omega, by omega, eS⟩
theorem xa_mk0 (hF : ux_FS kd ns np en) (hd : d < 10) (hd2 : kd d = 2) (hc : ux_NC kd en d r) (h : post 0 (ql, pr, ex, kd, ns, np, wo, en, st, pp, sp, pc, pg, pn, rg, ds, fi, ow, po, pw, pl, qu, ou)) : wpX_makeNode post (ql, pr, ex, kd, ns, np, wo, en, st, pp, sp, pc, pg, pn, rg, ds, fi, ow, po, pw, pl, qu, ou) (nI d) r t := by
  unfold wpX_makeNode
  rcases ux_frn hF.1 with ⟨n, n0, n1, n2, n3⟩ | h0
  · exact xa_fr n1 n2 n3 (br_f (ux_nz n0 (by omega)) (xa_ce0 hd (ux_NC0 ((hF.2.2.2.2 d hd).1 hd2).1 hc n0 n1 n2) (br_t rfl h)))
  · exact xa_fr0 h0 (br_t rfl h)
end UX24A
section UX24B
variable {ql pr go : Int32} {ex : Int64} {kd ns le wo en et np st qp sp pn pg rg ee ds pc fi ow po pl pw qu ou : Nat → Int32}
variable {d a n c e : Nat} {r t : Int32}
theorem ya_ce1 {post : Int32 → Prop} (hE : ux_E kd en) (hd : d < 10) (hc : ux_CE kd en d r a n) (h : post 1) : wpY_canEnter post (ql, ex, pr, go, kd, le, wo, ux_EN en, np, st, qp, sp, pn, pg, rg, ee, pc, fi, ow, po, pl, pw, qu, ou) (nI d) r := by
  obtain ⟨h1, h2, h3, h4, h5, h6, h7, h8⟩ := hc
  have e : 15 * nI d + nI a = nI (d * 15 + a) := by rw [ux_l_mul, nI_add, Nat.mul_comm]
  unfold wpY_canEnter
  dsimp only
  rw [h2]
  refine ya_inN (b := 0) (e := 14) (by omega) (by omega) (by omega) (br_f (by decide) ?_)
  rw [e, ux_c (n := d * 15 + a) (by omega), ux_EN_0 (by omega) h3]
  exact ⟨vp_in_nI (by omega) (by decide), br_f (by decide) (ya_fr h5 h6 h7 (br_f (nI_pos (by omega)) (ya_eo hE hd (br_f (nI_ge (b := 6) h8 (by decide)) h))))⟩
theorem ya_ce0 {post : Int32 → Prop} (hE : ux_E kd en) (hd : d < 10) (hc : ux_NC kd en d r) (h : post 0) : wpY_canEnter post (ql, ex, pr, go, kd, le, wo, ux_EN en, np, st, qp, sp, pn, pg, rg, ee, pc, fi, ow, po, pl, pw, qu, ou) (nI d) r := by
  unfold wpY_canEnter
  rcases hc with hr | ⟨a, ha, er, hc⟩
  · exact ya_inR 14 (by omega) hr (br_t rfl h)
  · have e : 15 * nI d + nI a = nI (d * 15 + a) := by rw [ux_l_mul, nI_add, Nat.mul_comm]
    rw [er]
    refine ya_inN (b := 0) (e := 14) (by omega) (by omega) (by omega) (br_f (by decide) ?_)
    rw [e, ux_c (n := d * 15 + a) (by omega)]
    refine ⟨vp_in_nI (by omega) (by decide), ?_⟩
    rcases hc with hc | ⟨h0, hc⟩
    · exact br_t ((ux_EN_ge hE (by omega)).mpr hc) h
    · rw [ux_EN_0 (by omega) h0]
      refine br_f (by decide) ?_
      have hle : ux_cn en d ≤ 15 := ux_ct_le (fun j => en (d * 15 + j)) 15
      rcases hc with hc | ⟨⟨n, n0, n1, n2, n3⟩, h6⟩
      · exact ya_fr0 hc (br_t (by decide) h)
      · exact ya_fr n1 n2 n3 (br_f (nI_pos (by omega)) (ya_eo hE hd (br_t (nI_le (a := 6) h6 (by omega)) h)))
theorem ys_nw {post : Int32 → SY → Prop} (hd : d < 10) (ha : a < 15) (hn : n < 10) (hz : ∀ j, j < 15 → en (n * 15 + j) = 0) (h : post (nI n) (ql, ex, pr, go, kd, le, wo, upd (ux_EN en) (d * 15 + a) (nI n), np, st, qp, sp, pn, pg, rg, ee, pc, fi, ow, po, pl, pw, qu, ou)) : ∀ r i, i + r = 15 → wY_enterNew_37 post (nI d) (nI a) (nI n) ql ex pr go (r + 1) (nI (n * 15 + i)) kd le wo (ux_EN en) np st qp sp pn pg rg ee pc fi ow po pl pw qu ou := by
  have e : 15 * nI n + 15 = nI (n * 15 + 15) := by rw [ux_l_mul, ux_add_l, Nat.mul_comm]
  have e2 : 15 * nI d + nI a = nI (d * 15 + a) := by rw [ux_l_mul, nI_add, Nat.mul_comm]
  intro r
  induction r with
  | zero =>
    intro i hi
    have ei : i = 15 := by omega
    subst ei
    refine br_t (by rw [e]; exact nI_le (Nat.le_refl _) (by omega)) ?_
    rw [e2, ux_c (n := d * 15 + a) (by omega)]
    exact ⟨vp_in_nI (by omega) (by decide), nm_e h⟩
  | succ r ih =>
    intro i hi
    have H := ih (i + 1) (by omega)
    refine br_f (by rw [e]; exact nI_ge (by omega) (by omega)) ⟨vp_in_nI (by omega) (by decide), ?_⟩
    rw [ux_c (n := n * 15 + i) (by omega)]
    exact nm_r (ux_ue (ux_EN_0 (by omega) (hz i (by omega)))) (nm_r (nI_1 _) H)
theorem ya_nw {post : Int32 → SY → Prop} (hE : ux_E kd en) (hd : d < 10) (hc : ux_CE kd en d r a n) (h : post (nI n) (ql, ex, pr, go, upd kd n t, upd le n 0, wo, ux_EN (upd en (d * 15 + a) (nI n)), upd np n (nI d), st, qp, sp, pn, pg, rg, ee, pc, fi, ow, po, pl, pw, qu, ou)) : wpY_enterNew post (ql, ex, pr, go, kd, le, wo, ux_EN en, np, st, qp, sp, pn, pg, rg, ee, pc, fi, ow, po, pl, pw, qu, ou) (nI d) r t := by
  obtain ⟨h1, h2, h3, h4, h5, h6, h7, h8⟩ := hc
  have vn : vp_in (nI n) 10 := vp_in_nI h5 (by decide)
  rw [ux_EN_u1 (by omega) (ux_nz h4 (by omega))] at h
  unfold wpY_enterNew
  dsimp only
  rw [h2]
  refine ya_fr h5 h6 h7 ⟨vn, ?_⟩
  rw [ux_c (n := n) (by omega)]
  exact nm_e ⟨vn, nm_e ⟨vn, nm_e (nm_r (e' := nI (n * 15 + 0)) (by rw [ux_l_mul, Nat.mul_comm]; rfl) ⟨16, ys_nw hd h1 h5 (ux_dz hE h5 (by rw [h6]; exact ux_n02)) h 15 0 (by omega)⟩)⟩⟩
end UX24B
section UX24
variable {ql pr : Int32} {ex : Int64} {kd ns np wo en st pp sp pc pg pn rg ds fi ow po pw pl qu ou : Nat → Int32}
variable {qp : Nat → Int32} {go : Int32} {B p s l a b m c : Nat}
theorem op_20 (hJ : ux_J B kd ns np en ds fi ow po st pp qp pc pn pl qu m c) (hN : ux_N qu m p) (hs : st p = 1) (H : ux_in sp pn pg p s l a b 20) : ux_G (B + 1) p (nI m, nI c, ex + 1, kd, ns, np, wo, en, st, pp, sp, pc, pg, pn, rg, ds, fi, ow, po, pw, pl, qu, ou) ((nI m), ex, (nI c), go, kd, (ux_LN kd ns), wo, (ux_EN en), np, st, qp, sp, pn, pg, rg, (ux_ED ds), pc, fi, ow, po, pl, pw, qu, ou) := by
  obtain ⟨hF, hD, hO, hZ, hR, hU, hI, hL, hB⟩ := id hJ
  obtain ⟨hp, hi, ho, ha, ea, hb, eb⟩ := id H
  have cl : (nI p).toNatClampNeg = p := ux_c (by omega)
  have iv : vp_in (nI p) 5 := vp_in_nI hp (by decide)
  have ca : (nI (p * 4 + a)).toNatClampNeg = p * 4 + a := ux_c (by omega)
  have cb : (nI (p * 4 + b)).toNatClampNeg = p * 4 + b := ux_c (by omega)
  have c3 : (nI (p * 4 + 3)).toNatClampNeg = p * 4 + 3 := ux_c (by omega)
  have va : vp_in (nI (p * 4 + a)) 20 := vp_in_nI (by omega) (by decide)
  have vb : vp_in (nI (p * 4 + b)) 20 := vp_in_nI (by omega) (by decide)
  have v3 : vp_in (nI (p * 4 + 3)) 20 := vp_in_nI (by omega) (by decide)
  have e4 : 4 * nI p + nI a = nI (p * 4 + a) := by rw [ux_l_mul, nI_add, Nat.mul_comm]
  have f4 : 4 * nI p + nI b = nI (p * 4 + b) := by rw [ux_l_mul, nI_add, Nat.mul_comm]
  have x3 : nI p * 4 + 3 = nI (p * 4 + 3) := by rw [ux_mul_l, ux_add_l]
  have y3 : 4 * nI p + 3 = nI (p * 4 + 3) := by rw [ux_l_mul, ux_add_l, Nat.mul_comm]
  obtain ⟨⟨d, hd, ed, hd2⟩, _⟩ := (hR p hp).2.2 (Or.inl hs)
  have eS := ((hF.2.2.2.2 d hd).1 hd2).1
  rcases ux_CEN hF d (rg (p * 4 + a)) with ⟨q, n, hc⟩ | hc
  · obtain ⟨h1, h2, h3, h4, h5, h6, h7, h8⟩ := id hc
    refine ux_G1 (r := 1) (go := 1) (kd := upd kd n 2) (ns := upd (upd ns n 0) d (upd ns n 0 d + 1)) (np := upd np n (nI d)) (en := upd en (d * 15 + q) (nI n)) (rg := upd rg (p * 4 + 3) 1) (sp := upd sp p (sp p + 1)) (ex := ex + 1) (wo := wo) (st := st) (pp := pp) (pc := pc) (pg := pg) (pn := pn) (ds := ds) (fi := fi) (ow := ow) (po := po) (pw := pw) (pl := pl) (qu := qu) (ou := ou) (qp := qp) (m := m) (c := c) (fun _ h => xj_20 H (fun Q hQ => ?_)) (fun _ h => yj_20 H (fun Q hQ => ?_)) (ux_J_mono (ux_J_new hJ h4 h5 h6 hd hd2 h1 h3 h8 (Or.inr rfl)) (by omega)) hN (Or.inr ⟨rfl, hs⟩)
    · unfold wpX_makeDirectory
      dsimp only
      rw [cl, ed]
      exact ⟨iv, xa_mk1 hd eS hc (br_f (ux_nz h4 (by omega)) (hQ _ _ (x634a hp hs (by decide) h)))⟩
    · rw [ux_LN_new (by rw [h6]; exact ux_n02) hd2] at h
      unfold wpY_makeDirectory
      dsimp only
      rw [e4, ca, cl, ed]
      exact ⟨va, nm_e ⟨iv, ya_ce1 hF.2.1 hd hc (br_f (by decide) ⟨iv, ya_nw hF.2.1 hd hc (ya_done hp (hQ _ (y262a hp rfl (by decide) h)))⟩)⟩⟩
  · refine ux_G1 (r := 1) (go := 1) (rg := upd rg (p * 4 + 3) (-1)) (sp := upd sp p (sp p + 1)) (ex := ex + 1) (kd := kd) (ns := ns) (np := np) (wo := wo) (en := en) (st := st) (pp := pp) (pc := pc) (pg := pg) (pn := pn) (ds := ds) (fi := fi) (ow := ow) (po := po) (pw := pw) (pl := pl) (qu := qu) (ou := ou) (qp := qp) (m := m) (c := c) (fun _ h => xj_20 H (fun Q hQ => ?_)) (fun _ h => yj_20 H (fun Q hQ => ?_)) (ux_J_mono hJ (by omega)) hN (Or.inr ⟨rfl, hs⟩)
    · unfold wpX_makeDirectory
      dsimp only
      rw [cl, ed]
      exact ⟨iv, xa_mk0 hF hd hd2 hc (br_t rfl (hQ _ _ (x634a hp hs (by decide) h)))⟩
    · unfold wpY_makeDirectory
      dsimp only
      rw [e4, ca, cl, ed]
      exact ⟨va, nm_e ⟨iv, ya_ce0 hF.2.1 hd hc (br_t rfl (ya_fail hp (hQ _ (y262a hp rfl (by decide) h))))⟩⟩
theorem op_21 (hJ : ux_J B kd ns np en ds fi ow po st pp qp pc pn pl qu m c) (hN : ux_N qu m p) (hs : st p = 1) (H : ux_in sp pn pg p s l a b 21) : ux_G (B + 1) p (nI m, nI c, ex + 1, kd, ns, np, wo, en, st, pp, sp, pc, pg, pn, rg, ds, fi, ow, po, pw, pl, qu, ou) ((nI m), ex, (nI c), go, kd, (ux_LN kd ns), wo, (ux_EN en), np, st, qp, sp, pn, pg, rg, (ux_ED ds), pc, fi, ow, po, pl, pw, qu, ou) := by
  obtain ⟨hF, hD, hO, hZ, hR, hU, hI, hL, hB⟩ := id hJ
  obtain ⟨hp, hi, ho, ha, ea, hb, eb⟩ := id H
  have cl : (nI p).toNatClampNeg = p := ux_c (by omega)
  have iv : vp_in (nI p) 5 := vp_in_nI hp (by decide)
  have ca : (nI (p * 4 + a)).toNatClampNeg = p * 4 + a := ux_c (by omega)
  have cb : (nI (p * 4 + b)).toNatClampNeg = p * 4 + b := ux_c (by omega)
  have c3 : (nI (p * 4 + 3)).toNatClampNeg = p * 4 + 3 := ux_c (by omega)
  have va : vp_in (nI (p * 4 + a)) 20 := vp_in_nI (by omega) (by decide)
  have vb : vp_in (nI (p * 4 + b)) 20 := vp_in_nI (by omega) (by decide)
  have v3 : vp_in (nI (p * 4 + 3)) 20 := vp_in_nI (by omega) (by decide)
  have e4 : 4 * nI p + nI a = nI (p * 4 + a) := by rw [ux_l_mul, nI_add, Nat.mul_comm]
  have f4 : 4 * nI p + nI b = nI (p * 4 + b) := by rw [ux_l_mul, nI_add, Nat.mul_comm]
  have x3 : nI p * 4 + 3 = nI (p * 4 + 3) := by rw [ux_mul_l, ux_add_l]
  have y3 : 4 * nI p + 3 = nI (p * 4 + 3) := by rw [ux_l_mul, ux_add_l, Nat.mul_comm]
  obtain ⟨⟨d, hd, ed, hd2⟩, _⟩ := (hR p hp).2.2 (Or.inl hs)
  have cd : (nI d).toNatClampNeg = d := ux_c (by omega)
  have vd : vp_in (nI d) 10 := vp_in_nI hd (by decide)
  by_cases h15 : rg (p * 4 + a) = 15
  · have hpar : ∃ e, e < 10 ∧ np d = nI e ∧ kd e = 2 := by
      by_cases z : d = 0
      · exact ⟨0, by omega, by rw [z]; exact hF.2.2.1.1, hF.1.1⟩
      · obtain ⟨e, e1, e2, e3, _⟩ := hF.2.2.1.2 d (by omega) hd hd2
        exact ⟨e, e1, e2, e3⟩
    obtain ⟨e, e1, e2, e3⟩ := hpar
    refine ux_G1 (r := 1) (go := 1) (pc := upd pc p (nI e)) (rg := upd rg (p * 4 + 3) 1) (sp := upd sp p (sp p + 1)) (ex := ex + 1) (kd := kd) (ns := ns) (np := np) (wo := wo) (en := en) (st := st) (pp := pp) (pg := pg) (pn := pn) (ds := ds) (fi := fi) (ow := ow) (po := po) (pw := pw) (pl := pl) (qu := qu) (ou := ou) (qp := qp) (m := m) (c := c) (fun _ h => xj_21 H (fun Q hQ => ?_)) (fun _ h => yj_21 H (fun Q hQ => ?_)) (ux_J_mono (ux_J_pc hJ e1 e3) (by omega)) hN (Or.inr ⟨rfl, hs⟩)
    · unfold wpX_go
      dsimp only
      rw [cl, ed, cd, e2]
      exact br_t h15 ⟨iv, vd, iv, nm_e (hQ _ _ (x634a hp hs (by decide) h))⟩
    · unfold wpY_go
      dsimp only
      rw [e4, ca, cl, ed, cd, e2]
      refine ⟨va, nm_e (br_t h15 ⟨iv, vd, br_f (nI_pos (by omega)) ⟨vp_in_nI e1 (by decide), br_t (by rw [ux_c (by omega)]; exact e3) ⟨iv, ?_⟩⟩⟩)⟩
      rw [cl]
      exact nm_e (ya_done hp (hQ _ (y262a hp rfl (by decide) h)))
  · rcases ux_noye hF.2.1 hd (rg (p * 4 + a)) with hno | ⟨q, n, hye, hk0, _⟩
    · refine ux_G1 (r := 1) (go := 1) (rg := upd rg (p * 4 + 3) (-1)) (sp := upd sp p (sp p + 1)) (ex := ex + 1) (kd := kd) (ns := ns) (np := np) (wo := wo) (en := en) (st := st) (pp := pp) (pc := pc) (pg := pg) (pn := pn) (ds := ds) (fi := fi) (ow := ow) (po := po) (pw := pw) (pl := pl) (qu := qu) (ou := ou) (qp := qp) (m := m) (c := c) (fun _ h => xj_21 H (fun Q hQ => ?_)) (fun _ h => yj_21 H (fun Q hQ => ?_)) (ux_J_mono hJ (by omega)) hN (Or.inr ⟨rfl, hs⟩)
      · unfold wpX_go
        dsimp only
        rw [cl, ed]
        exact br_f h15 ⟨iv, xa_nnN hd hno (br_t rfl (hQ _ _ (x634a hp hs (by decide) h)))⟩
      · unfold wpY_go
        dsimp only
        rw [e4, ca, cl, ed]
        exact ⟨va, nm_e (br_f h15 ⟨iv, ya_nmN hd hno (br_t (by decide) (ya_fail hp (hQ _ (y262a hp rfl (by decide) h))))⟩)⟩
    · have hn := hye.2.2.2.1
      have hn0 := hye.2.2.1
      have cn : (nI n).toNatClampNeg = n := ux_c (by omega)
      have vn : vp_in (nI n) 10 := vp_in_nI hn (by decide)
      by_cases h2 : kd n = 2
      · refine ux_G1 (r := 1) (go := 1) (pc := upd pc p (nI n)) (rg := upd rg (p * 4 + 3) 1) (sp := upd sp p (sp p + 1)) (ex := ex + 1) (kd := kd) (ns := ns) (np := np) (wo := wo) (en := en) (st := st) (pp := pp) (pg := pg) (pn := pn) (ds := ds) (fi := fi) (ow := ow) (po := po) (pw := pw) (pl := pl) (qu := qu) (ou := ou) (qp := qp) (m := m) (c := c) (fun _ h => xj_21 H (fun Q hQ => ?_)) (fun _ h => yj_21 H (fun Q hQ => ?_)) (ux_J_mono (ux_J_pc hJ hn h2) (by omega)) hN (Or.inr ⟨rfl, hs⟩)
        · unfold wpX_go
          dsimp only
          rw [cl, ed]
          refine br_f h15 ⟨iv, xa_nnY hd hye (br_f (ux_nz hn0 (by omega)) ⟨vn, br_t (by rw [cn]; exact h2) ⟨iv, nm_e (hQ _ _ (x634a hp hs (by decide) h))⟩⟩)⟩
        · unfold wpY_go
          dsimp only
          rw [e4, ca, cl, ed]
          refine ⟨va, nm_e (br_f h15 ⟨iv, ya_nmY hd hye (br_f (nI_pos (by omega)) ⟨vn, br_t (by rw [cn]; exact h2) ⟨iv, ?_⟩⟩)⟩)⟩
          rw [cl]
          exact nm_e (ya_done hp (hQ _ (y262a hp rfl (by decide) h)))
      · refine ux_G1 (r := 1) (go := 1) (rg := upd rg (p * 4 + 3) (-1)) (sp := upd sp p (sp p + 1)) (ex := ex + 1) (kd := kd) (ns := ns) (np := np) (wo := wo) (en := en) (st := st) (pp := pp) (pc := pc) (pg := pg) (pn := pn) (ds := ds) (fi := fi) (ow := ow) (po := po) (pw := pw) (pl := pl) (qu := qu) (ou := ou) (qp := qp) (m := m) (c := c) (fun _ h => xj_21 H (fun Q hQ => ?_)) (fun _ h => yj_21 H (fun Q hQ => ?_)) (ux_J_mono hJ (by omega)) hN (Or.inr ⟨rfl, hs⟩)
        · unfold wpX_go
          dsimp only
          rw [cl, ed]
          exact br_f h15 ⟨iv, xa_nnY hd hye (br_f (ux_nz hn0 (by omega)) ⟨vn, br_f (by rw [cn]; exact h2) (hQ _ _ (x634a hp hs (by decide) h))⟩)⟩
        · unfold wpY_go
          dsimp only
          rw [e4, ca, cl, ed]
          exact ⟨va, nm_e (br_f h15 ⟨iv, ya_nmY hd hye (br_f (nI_pos (by omega)) ⟨vn, br_f (by rw [cn]; exact h2) (ya_fail hp (hQ _ (y262a hp rfl (by decide) h)))⟩)⟩)⟩
end UX24
end
section
section UX25
variable {ql pr : Int32} {ex : Int64} {kd ns np wo en st pp sp pc pg pn rg ds fi ow po pw pl qu ou : Nat → Int32}
variable {qp : Nat → Int32} {go : Int32} {B p s l a b m c : Nat}
/-- LINK fails -/
theorem op_22f (hJ : ux_J B kd ns np en ds fi ow po st pp qp pc pn pl qu m c) (hN : ux_N qu m p) (hs : st p = 1) (H : ux_in sp pn pg p s l a b 22) {d : Nat} (hd : d < 10) (ed : pc p = nI d) (hd2 : kd d = 2)
    (hw : ux_no en d (rg (p * 4 + a)) ∨ ∃ q n, ux_ye en d (rg (p * 4 + a)) q n ∧ (kd n ≠ 1 ∨ (kd n = 1 ∧ ((rg (p * 4 + b) < 0 ∨ (¬ rg (p * 4 + b) < 0 ∧ nI 15 ≤ rg (p * 4 + b))) ∨ (∃ e, e < 15 ∧ rg (p * 4 + b) = nI e ∧ (en (d * 15 + e) ≠ 0 ∨ (en (d * 15 + e) = 0 ∧ ux_cn en d = 6))))))) : ux_G (B + 1) p (nI m, nI c, ex + 1, kd, ns, np, wo, en, st, pp, sp, pc, pg, pn, rg, ds, fi, ow, po, pw, pl, qu, ou) ((nI m), ex, (nI c), go, kd, (ux_LN kd ns), wo, (ux_EN en), np, st, qp, sp, pn, pg, rg, (ux_ED ds), pc, fi, ow, po, pl, pw, qu, ou) := by
  obtain ⟨hF, hD, hO, hZ, hR, hU, hI, hL, hB⟩ := id hJ
  obtain ⟨hp, hi, ho, ha, ea, hb, eb⟩ := id H
  have cl : (nI p).toNatClampNeg = p := ux_c (by omega)
  have iv : vp_in (nI p) 5 := vp_in_nI hp (by decide)
  have ca : (nI (p * 4 + a)).toNatClampNeg = p * 4 + a := ux_c (by omega)
  have cb : (nI (p * 4 + b)).toNatClampNeg = p * 4 + b := ux_c (by omega)
  have c3 : (nI (p * 4 + 3)).toNatClampNeg = p * 4 + 3 := ux_c (by omega)
  have va : vp_in (nI (p * 4 + a)) 20 := vp_in_nI (by omega) (by decide)
  have vb : vp_in (nI (p * 4 + b)) 20 := vp_in_nI (by omega) (by decide)
  have v3 : vp_in (nI (p * 4 + 3)) 20 := vp_in_nI (by omega) (by decide)
  have e4 : 4 * nI p + nI a = nI (p * 4 + a) := by rw [ux_l_mul, nI_add, Nat.mul_comm]
  have f4 : 4 * nI p + nI b = nI (p * 4 + b) := by rw [ux_l_mul, nI_add, Nat.mul_comm]
  have x3 : nI p * 4 + 3 = nI (p * 4 + 3) := by rw [ux_mul_l, ux_add_l]
  have y3 : 4 * nI p + 3 = nI (p * 4 + 3) := by rw [ux_l_mul, ux_add_l, Nat.mul_comm]
  have eS := ((hF.2.2.2.2 d hd).1 hd2).1
  have h6 := ((hF.2.2.2.2 d hd).1 hd2).2
  refine ux_G1 (r := 1) (go := 1) (rg := upd rg (p * 4 + 3) (-1)) (sp := upd sp p (sp p + 1)) (ex := ex + 1) (kd := kd) (ns := ns) (np := np) (wo := wo) (en := en) (st := st) (pp := pp) (pc := pc) (pg := pg) (pn := pn) (ds := ds) (fi := fi) (ow := ow) (po := po) (pw := pw) (pl := pl) (qu := qu) (ou := ou) (qp := qp) (m := m) (c := c) (fun _ h => xj_22 H (fun Q hQ => ?_)) (fun _ h => yj_22 H (fun Q hQ => ?_)) (ux_J_mono hJ (by omega)) hN (Or.inr ⟨rfl, hs⟩)
  · have hX := hQ (-1) (nI m, nI c, ex + 1, kd, ns, np, wo, en, st, pp, upd sp p (sp p + 1), pc, pg, pn, rg, ds, fi, ow, po, pw, pl, qu, ou) (x634a hp hs (by decide) h)
    unfold wpX_link
    dsimp only
    rw [cl, ed]
    refine ⟨iv, ?_⟩
    rcases hw with hno | ⟨q, n, hye, h1 | ⟨h1, h2⟩⟩
    · exact xa_fnN hd hno hF.1.1 (br_t rfl hX)
    · exact xa_fnD hd hye h1 (br_t rfl hX)
    · have hn := hye.2.2.2.1
      refine xa_fnY hd hye h1 (br_f (ux_nz hye.2.2.1 (by omega)) ⟨iv, xa_ce0 hd ?_ (br_t rfl hX)⟩)
      rcases h2 with h2 | ⟨e, he, e1, e2⟩
      · exact Or.inl h2
      · refine Or.inr ⟨e, he, e1, ?_⟩
        by_cases z : ux_cn en d < 6
        · rcases e2 with e2 | ⟨_, e2⟩
          · exact Or.inr ⟨⟨_, z, eS⟩, e2⟩
          · omega
        · exact Or.inl ⟨_, by omega, by omega, eS⟩
  · have hX : wY_link_92 Q (nI p) (nI m) (ex + 1) (nI c) 1 kd (ux_LN kd ns) wo (ux_EN en) np st qp sp pn pg rg (ux_ED ds) pc fi ow po pl pw qu ou := ya_fail hp (hQ _ (y262a hp rfl (by decide) h))
    unfold wpY_link
    dsimp only
    rw [e4, f4, ca, cb, cl, ed]
    refine ⟨iv, va, ?_⟩
    rcases hw with hno | ⟨q, n, hye, hw⟩
    · exact ya_nmN hd hno ⟨vb, nm_e (br_t (by decide) hX)⟩
    · have hn := hye.2.2.2.1
      have cn : (nI n).toNatClampNeg = n := ux_c (by omega)
      refine ya_nmY hd hye ⟨vb, nm_e (br_f (nI_pos (by omega)) ⟨vp_in_nI hn (by decide), ?_⟩)⟩
      rw [cn]
      rcases hw with h1 | ⟨h1, h2⟩
      · exact br_f h1 hX
      · refine br_t h1 ?_
        rcases h2 with h2 | ⟨e, he, e1, e2⟩
        · exact ya_inR 14 (by omega) h2 (br_t rfl hX)
        · have ee : ux_EN en (15 * d + e) = ux_EN en (d * 15 + e) := by rw [Nat.mul_comm]
          rw [e1]
          refine ya_inN (b := 0) (e := 14) (by omega) (by omega) (by omega) (br_f (by decide) ⟨iv, ya_nmA hd he ?_⟩)
          rw [ee]
          rcases e2 with e2 | ⟨e2, e3⟩
          · exact br_t ((ux_EN_ge hF.2.1 (by omega)).mpr e2) hX
          · rw [ux_EN_0 (by omega) e2]
            refine br_f (by decide) ⟨iv, ya_eo hF.2.1 hd (br_t ?_ hX)⟩
            rw [e3]; rfl
theorem op_22 (hJ : ux_J B kd ns np en ds fi ow po st pp qp pc pn pl qu m c) (hN : ux_N qu m p) (hs : st p = 1) (H : ux_in sp pn pg p s l a b 22) : ux_G (B + 1) p (nI m, nI c, ex + 1, kd, ns, np, wo, en, st, pp, sp, pc, pg, pn, rg, ds, fi, ow, po, pw, pl, qu, ou) ((nI m), ex, (nI c), go, kd, (ux_LN kd ns), wo, (ux_EN en), np, st, qp, sp, pn, pg, rg, (ux_ED ds), pc, fi, ow, po, pl, pw, qu, ou) := by
  obtain ⟨hF, hD, hO, hZ, hR, hU, hI, hL, hB⟩ := id hJ
  obtain ⟨hp, hi, ho, ha, ea, hb, eb⟩ := id H
  have cl : (nI p).toNatClampNeg = p := ux_c (by omega)
  have iv : vp_in (nI p) 5 := vp_in_nI hp (by decide)
  have ca : (nI (p * 4 + a)).toNatClampNeg = p * 4 + a := ux_c (by omega)
  have cb : (nI (p * 4 + b)).toNatClampNeg = p * 4 + b := ux_c (by omega)
  have c3 : (nI (p * 4 + 3)).toNatClampNeg = p * 4 + 3 := ux_c (by omega)
  have va : vp_in (nI (p * 4 + a)) 20 := vp_in_nI (by omega) (by decide)
  have vb : vp_in (nI (p * 4 + b)) 20 := vp_in_nI (by omega) (by decide)
  have v3 : vp_in (nI (p * 4 + 3)) 20 := vp_in_nI (by omega) (by decide)
  have e4 : 4 * nI p + nI a = nI (p * 4 + a) := by rw [ux_l_mul, nI_add, Nat.mul_comm]
  have f4 : 4 * nI p + nI b = nI (p * 4 + b) := by rw [ux_l_mul, nI_add, Nat.mul_comm]
  have x3 : nI p * 4 + 3 = nI (p * 4 + 3) := by rw [ux_mul_l, ux_add_l]
  have y3 : 4 * nI p + 3 = nI (p * 4 + 3) := by rw [ux_l_mul, ux_add_l, Nat.mul_comm]
  obtain ⟨⟨d, hd, ed, hd2⟩, _⟩ := (hR p hp).2.2 (Or.inl hs)
  have eS := ((hF.2.2.2.2 d hd).1 hd2).1
  have h6 := ((hF.2.2.2.2 d hd).1 hd2).2
  rcases ux_noye hF.2.1 hd (rg (p * 4 + a)) with hno | ⟨q, n, hye, hk0, _⟩
  · exact op_22f hJ hN hs H hd ed hd2 (Or.inl hno)
  · by_cases h1 : kd n = 1
    · rcases ux_rg (rg (p * 4 + b)) 15 (by decide) with ⟨e, he, e1⟩ | hr
      · by_cases h0 : en (d * 15 + e) = 0
        · by_cases hc : ux_cn en d < 6
          · have hn := hye.2.2.2.1
            have hn0 := hye.2.2.1
            have cn : (nI n).toNatClampNeg = n := ux_c (by omega)
            have vn : vp_in (nI n) 10 := vp_in_nI hn (by decide)
            have y15 : 15 * nI d + nI e = nI (d * 15 + e) := by rw [ux_l_mul, nI_add, Nat.mul_comm]
            refine ux_G1 (r := 1) (go := 1) (ns := upd ns d (ns d + 1)) (en := upd en (d * 15 + e) (nI n)) (rg := upd rg (p * 4 + 3) 1) (sp := upd sp p (sp p + 1)) (ex := ex + 1) (kd := kd) (np := np) (wo := wo) (st := st) (pp := pp) (pc := pc) (pg := pg) (pn := pn) (ds := ds) (fi := fi) (ow := ow) (po := po) (pw := pw) (pl := pl) (qu := qu) (ou := ou) (qp := qp) (m := m) (c := c) (fun _ h => xj_22 H (fun Q hQ => ?_)) (fun _ h => yj_22 H (fun Q hQ => ?_)) (ux_J_mono (ux_J_link hJ hn0 hn h1 hd hd2 he h0 hc) (by omega)) hN (Or.inr ⟨rfl, hs⟩)
            · unfold wpX_link
              dsimp only
              rw [cl, ed]
              refine ⟨iv, xa_fnY hd hye h1 (br_f (ux_nz hn0 (by omega)) ⟨iv, xa_ce1 hd ⟨he, e1, eS, hc, h0⟩ (br_f (by decide) ⟨iv, ?_⟩)⟩)⟩
              rw [e1]
              exact xa_et hd he (hQ _ _ (x634a hp hs (by decide) h))
            · rw [ux_LN_d hd2, ux_EN_u1 (by omega) (ux_nz hn0 (by omega))] at h
              unfold wpY_link
              dsimp only
              rw [e4, f4, ca, cb, cl, ed]
              refine ⟨iv, va, ya_nmY hd hye ⟨vb, nm_e (br_f (nI_pos (by omega)) ⟨vn, br_t (by rw [cn]; exact h1) ?_⟩)⟩⟩
              rw [e1]
              refine ya_inN (b := 0) (e := 14) (by omega) (by omega) (by omega) (br_f (by decide) ⟨iv, ya_nmA hd he ?_⟩)
              rw [Nat.mul_comm 15 d, ux_EN_0 (by omega) h0, y15, ux_c (n := d * 15 + e) (by omega)]
              exact br_f (by decide) ⟨iv, ya_eo hF.2.1 hd (br_f (ux_ne (b := 6) (by omega) (by omega) (by omega)) ⟨iv, vp_in_nI (by omega) (by decide), nm_e (ya_done hp (hQ _ (y262a hp rfl (by decide) h)))⟩)⟩
          · exact op_22f hJ hN hs H hd ed hd2 (Or.inr ⟨q, n, hye, Or.inr ⟨h1, Or.inr ⟨e, he, e1, Or.inr ⟨h0, by omega⟩⟩⟩⟩)
        · exact op_22f hJ hN hs H hd ed hd2 (Or.inr ⟨q, n, hye, Or.inr ⟨h1, Or.inr ⟨e, he, e1, Or.inl h0⟩⟩⟩)
      · exact op_22f hJ hN hs H hd ed hd2 (Or.inr ⟨q, n, hye, Or.inr ⟨h1, Or.inl hr⟩⟩)
    · exact op_22f hJ hN hs H hd ed hd2 (Or.inr ⟨q, n, hye, Or.inl h1⟩)
/-- REMOVE fails -/
theorem op_23f (hJ : ux_J B kd ns np en ds fi ow po st pp qp pc pn pl qu m c) (hN : ux_N qu m p) (hs : st p = 1) (H : ux_in sp pn pg p s l a b 23) {d : Nat} (hd : d < 10) (ed : pc p = nI d)
    (hw : ux_no en d (rg (p * 4 + a)) ∨ ∃ q n, ux_ye en d (rg (p * 4 + a)) q n ∧ kd n = 2 ∧ (0 < ux_cn en n ∨ (ux_cn en n = 0 ∧ ∃ j, j < 5 ∧ (st j = 1 ∨ st j = 2) ∧ pc j = nI n))) : ux_G (B + 1) p (nI m, nI c, ex + 1, kd, ns, np, wo, en, st, pp, sp, pc, pg, pn, rg, ds, fi, ow, po, pw, pl, qu, ou) ((nI m), ex, (nI c), go, kd, (ux_LN kd ns), wo, (ux_EN en), np, st, qp, sp, pn, pg, rg, (ux_ED ds), pc, fi, ow, po, pl, pw, qu, ou) := by
  obtain ⟨hF, hD, hO, hZ, hR, hU, hI, hL, hB⟩ := id hJ
  obtain ⟨hp, hi, ho, ha, ea, hb, eb⟩ := id H
  have cl : (nI p).toNatClampNeg = p := ux_c (by omega)
  have iv : vp_in (nI p) 5 := vp_in_nI hp (by decide)
  have ca : (nI (p * 4 + a)).toNatClampNeg = p * 4 + a := ux_c (by omega)
  have cb : (nI (p * 4 + b)).toNatClampNeg = p * 4 + b := ux_c (by omega)
  have c3 : (nI (p * 4 + 3)).toNatClampNeg = p * 4 + 3 := ux_c (by omega)
  have va : vp_in (nI (p * 4 + a)) 20 := vp_in_nI (by omega) (by decide)
  have vb : vp_in (nI (p * 4 + b)) 20 := vp_in_nI (by omega) (by decide)
  have v3 : vp_in (nI (p * 4 + 3)) 20 := vp_in_nI (by omega) (by decide)
  have e4 : 4 * nI p + nI a = nI (p * 4 + a) := by rw [ux_l_mul, nI_add, Nat.mul_comm]
  have f4 : 4 * nI p + nI b = nI (p * 4 + b) := by rw [ux_l_mul, nI_add, Nat.mul_comm]
  have x3 : nI p * 4 + 3 = nI (p * 4 + 3) := by rw [ux_mul_l, ux_add_l]
  have y3 : 4 * nI p + 3 = nI (p * 4 + 3) := by rw [ux_l_mul, ux_add_l, Nat.mul_comm]
  refine ux_G1 (r := 1) (go := 1) (rg := upd rg (p * 4 + 3) (-1)) (sp := upd sp p (sp p + 1)) (ex := ex + 1) (kd := kd) (ns := ns) (np := np) (wo := wo) (en := en) (st := st) (pp := pp) (pc := pc) (pg := pg) (pn := pn) (ds := ds) (fi := fi) (ow := ow) (po := po) (pw := pw) (pl := pl) (qu := qu) (ou := ou) (qp := qp) (m := m) (c := c) (fun _ h => xj_23 H (fun Q hQ => ?_)) (fun _ h => yj_23 H (fun Q hQ => ?_)) (ux_J_mono hJ (by omega)) hN (Or.inr ⟨rfl, hs⟩)
  · have hX := hQ (-1) (nI m, nI c, ex + 1, kd, ns, np, wo, en, st, pp, upd sp p (sp p + 1), pc, pg, pn, rg, ds, fi, ow, po, pw, pl, qu, ou) (x634a hp hs (by decide) h)
    unfold wpX_remove
    dsimp only
    rw [cl, ed]
    refine ⟨iv, ?_⟩
    rcases hw with hno | ⟨q, n, hye, h2, hb2⟩
    · exact xa_nnN hd hno (br_t rfl hX)
    · have hn := hye.2.2.2.1
      have vn : vp_in (nI n) 10 := vp_in_nI hn (by decide)
      have eS := ((hF.2.2.2.2 n hn).1 h2).1
      have h6 := ((hF.2.2.2.2 n hn).1 h2).2
      refine xa_nnY hd hye (br_f (ux_nz hye.2.2.1 (by omega)) ⟨vn, ?_⟩)
      rw [ux_c (n := n) (by omega), eS]
      refine br_t h2 ⟨vn, ?_⟩
      rcases hb2 with z | ⟨z, z2⟩
      · exact br_t (nI_lt (a := 0) z (by omega)) hX
      · exact br_f (by rw [z]; decide) (xa_pl1 z2 (br_f (by decide) hX))
  · have hX : wY_remove_58 Q (nI p) (nI m) (ex + 1) (nI c) 1 kd (ux_LN kd ns) wo (ux_EN en) np st qp sp pn pg rg (ux_ED ds) pc fi ow po pl pw qu ou := ya_fail hp (hQ _ (y262a hp rfl (by decide) h))
    unfold wpY_remove
    dsimp only
    rw [e4, ca, cl, ed]
    refine ⟨va, nm_e ⟨iv, ?_⟩⟩
    rcases hw with hno | ⟨q, n, hye, h2, hb2⟩
    · exact ya_nmN hd hno (br_t (by decide) hX)
    · have hn := hye.2.2.2.1
      have vn : vp_in (nI n) 10 := vp_in_nI hn (by decide)
      have h6 := ((hF.2.2.2.2 n hn).1 h2).2
      refine ya_nmY hd hye (br_f (nI_pos (by omega)) ⟨vn, br_t (by rw [ux_c (by omega)]; exact h2) (ya_eo hF.2.1 hn ?_)⟩)
      rcases hb2 with z | ⟨z, z2⟩
      · exact br_t (nI_lt (a := 0) z (by omega)) hX
      · exact br_f (by rw [z]; decide) (ya_pl1 z2 (br_f (by decide) hX))
theorem op_23 (hJ : ux_J B kd ns np en ds fi ow po st pp qp pc pn pl qu m c) (hN : ux_N qu m p) (hs : st p = 1) (H : ux_in sp pn pg p s l a b 23) : ux_G (B + 1) p (nI m, nI c, ex + 1, kd, ns, np, wo, en, st, pp, sp, pc, pg, pn, rg, ds, fi, ow, po, pw, pl, qu, ou) ((nI m), ex, (nI c), go, kd, (ux_LN kd ns), wo, (ux_EN en), np, st, qp, sp, pn, pg, rg, (ux_ED ds), pc, fi, ow, po, pl, pw, qu, ou) := by
  obtain ⟨hF, hD, hO, hZ, hR, hU, hI, hL, hB⟩ := id hJ
  obtain ⟨hp, hi, ho, ha, ea, hb, eb⟩ := id H
  have cl : (nI p).toNatClampNeg = p := ux_c (by omega)
  have iv : vp_in (nI p) 5 := vp_in_nI hp (by decide)
  have ca : (nI (p * 4 + a)).toNatClampNeg = p * 4 + a := ux_c (by omega)
  have cb : (nI (p * 4 + b)).toNatClampNeg = p * 4 + b := ux_c (by omega)
  have c3 : (nI (p * 4 + 3)).toNatClampNeg = p * 4 + 3 := ux_c (by omega)
  have va : vp_in (nI (p * 4 + a)) 20 := vp_in_nI (by omega) (by decide)
  have vb : vp_in (nI (p * 4 + b)) 20 := vp_in_nI (by omega) (by decide)
  have v3 : vp_in (nI (p * 4 + 3)) 20 := vp_in_nI (by omega) (by decide)
  have e4 : 4 * nI p + nI a = nI (p * 4 + a) := by rw [ux_l_mul, nI_add, Nat.mul_comm]
  have f4 : 4 * nI p + nI b = nI (p * 4 + b) := by rw [ux_l_mul, nI_add, Nat.mul_comm]
  have x3 : nI p * 4 + 3 = nI (p * 4 + 3) := by rw [ux_mul_l, ux_add_l]
  have y3 : 4 * nI p + 3 = nI (p * 4 + 3) := by rw [ux_l_mul, ux_add_l, Nat.mul_comm]
  obtain ⟨⟨d, hd, ed, hd2⟩, _⟩ := (hR p hp).2.2 (Or.inl hs)
  have eS := ((hF.2.2.2.2 d hd).1 hd2).1
  have vd : vp_in (nI d) 10 := vp_in_nI hd (by decide)
  have cd : (nI d).toNatClampNeg = d := ux_c (by omega)
  rcases ux_noye hF.2.1 hd (rg (p * 4 + a)) with hno | ⟨q, n, hye, hk0, _⟩
  · exact op_23f hJ hN hs H hd ed (Or.inl hno)
  · obtain ⟨q1, q2, hn0, hn, q5⟩ := id hye
    have cn : (nI n).toNatClampNeg = n := ux_c (by omega)
    have vn : vp_in (nI n) 10 := vp_in_nI hn (by decide)
    have x15 : nI d * 15 + nI q = nI (d * 15 + q) := by rw [ux_mul_l, nI_add]
    have y15 : 15 * nI d + nI q = nI (d * 15 + q) := by rw [ux_l_mul, nI_add, Nat.mul_comm]
    have c15 : (nI (d * 15 + q)).toNatClampNeg = d * 15 + q := ux_c (by omega)
    have v15 : vp_in (nI (d * 15 + q)) 150 := vp_in_nI (by omega) (by decide)
    have hz : nI (ux_cn en d) = ns d - 1 + 1 := by rw [Int32.sub_add_cancel, eS]
    by_cases h2 : kd n = 2
    · have eN := ((hF.2.2.2.2 n hn).1 h2).1
      have hN6 := ((hF.2.2.2.2 n hn).1 h2).2
      by_cases hc : 0 < ux_cn en n
      · exact op_23f hJ hN hs H hd ed (Or.inr ⟨q, n, hye, h2, Or.inl hc⟩)
      · by_cases hpl : ∃ j, j < 5 ∧ (st j = 1 ∨ st j = 2) ∧ pc j = nI n
        · exact op_23f hJ hN hs H hd ed (Or.inr ⟨q, n, hye, h2, Or.inr ⟨by omega, hpl⟩⟩)
        · have hc0 : ux_cn en n = 0 := by omega
          have hpl2 : ∀ j, j < 5 → ¬ ((st j = 1 ∨ st j = 2) ∧ pc j = nI n) := fun j h1 h3 => hpl ⟨j, h1, h3⟩
          have hFS := ux_FS_rmd hF hn0 hn h2 hd q1 q5 hz hc0
          have hdn : d ≠ n := by
            intro z
            have := hFS.1
            have h3 : (fun j => en (n * 15 + j)) q = 0 := ux_ct_0 15 hc0 q q1
            have h4 : en (n * 15 + q) = 0 := h3
            rw [← z, q5] at h4
            exact ux_nz hn0 (by omega) h4
          refine ux_G2 (r := 1) (go := 1) (kd := upd kd n 0) (ns := upd ns d (ns d - 1)) (en := upd en (d * 15 + q) 0) (rg := upd rg (p * 4 + 3) 1) (sp := upd sp p (sp p + 1)) (ex := ex + 1) (np := np) (wo := wo) (st := st) (pp := pp) (pc := pc) (pg := pg) (pn := pn) (ds := ds) (fi := fi) (ow := ow) (po := po) (pw := pw) (pl := pl) (qu := qu) (ou := ou) (qp := qp) (m := m) (c := c) (fun _ h => xj_23 H (fun Q hQ => ?_)) (fun _ h => yj_23 H (fun Q hQ => ?_)) hD (ux_J_mono (ux_J_rmd hJ hn0 hn h2 hd q1 q5 hz hc0 (fun j h1 h3 h4 => hpl2 j h1 ⟨h3, h4⟩)) (by omega)) hN (Or.inr ⟨rfl, hs⟩)
          · unfold wpX_remove
            dsimp only
            rw [cl, ed]
            refine ⟨iv, xa_nnY hd hye (br_f (ux_nz hn0 (by omega)) ⟨vn, ?_⟩)⟩
            rw [cn, eN, hc0]
            refine br_t h2 ⟨vn, br_f (by decide) (xa_pl0 hpl2 (br_t rfl ⟨vn, nm_e ?_⟩))⟩
            unfold wX_remove_54
            rw [cl, ed, q2, x15, c15, cd]
            exact ⟨iv, v15, nm_e ⟨iv, vd, vd, nm_e (hQ _ _ (x634a hp hs (by decide) h))⟩⟩
          · have eLN : ux_LN (ux_ck (upd kd n 0) (upd en (d * 15 + q) 0) ds fi) (upd ns d (ns d - 1)) = ux_LN kd ns := by
              rw [ux_LN_ck, ux_LN_d (by rw [ux_un hdn]; exact hd2)]
              exact ux_LN_rd h2 (by rw [eN, hc0]; rfl)
            rw [eLN] at h
            unfold wpY_remove
            dsimp only
            rw [e4, ca, cl, ed]
            refine ⟨va, nm_e ⟨iv, ya_nmY hd hye (br_f (nI_pos (by omega)) ⟨vn, br_t (by rw [cn]; exact h2) (ya_eo hF.2.1 hn (br_f (by rw [hc0]; decide) (ya_pl0 hpl2 (br_t rfl ?_))))⟩)⟩⟩
            unfold wY_remove_64
            rw [cl, ed, q2, y15, c15, cn]
            refine ⟨iv, v15, nm_r (e' := ux_EN (upd en (d * 15 + q) 0)) (ux_EN_u0 (by omega)).symm ⟨vn, br_t h2 ⟨vn, nm_e ?_⟩⟩⟩
            exact ya_cl hFS.1 hFS.2.1 hD (ya_done hp (hQ _ (y262a hp rfl (by decide) h)))
    · have hFS := ux_FS_rm hF hn0 hn h2 hd q1 q5 hz
      refine ux_G2 (r := 1) (go := 1) (ns := upd ns d (ns d - 1)) (en := upd en (d * 15 + q) 0) (rg := upd rg (p * 4 + 3) 1) (sp := upd sp p (sp p + 1)) (ex := ex + 1) (kd := kd) (np := np) (wo := wo) (st := st) (pp := pp) (pc := pc) (pg := pg) (pn := pn) (ds := ds) (fi := fi) (ow := ow) (po := po) (pw := pw) (pl := pl) (qu := qu) (ou := ou) (qp := qp) (m := m) (c := c) (fun _ h => xj_23 H (fun Q hQ => ?_)) (fun _ h => yj_23 H (fun Q hQ => ?_)) hD (ux_J_mono (ux_J_rm hJ hn0 hn h2 hd q1 q5 hz) (by omega)) hN (Or.inr ⟨rfl, hs⟩)
      · unfold wpX_remove
        dsimp only
        rw [cl, ed]
        refine ⟨iv, xa_nnY hd hye (br_f (ux_nz hn0 (by omega)) ⟨vn, br_f (by rw [cn]; exact h2) ?_⟩)⟩
        unfold wX_remove_54
        rw [cl, ed, q2, x15, c15, cd]
        exact ⟨iv, v15, nm_e ⟨iv, vd, vd, nm_e (hQ _ _ (x634a hp hs (by decide) h))⟩⟩
      · rw [ux_LN_ck, ux_LN_d hd2] at h
        unfold wpY_remove
        dsimp only
        rw [e4, ca, cl, ed]
        refine ⟨va, nm_e ⟨iv, ya_nmY hd hye (br_f (nI_pos (by omega)) ⟨vn, br_f (by rw [cn]; exact h2) ?_⟩)⟩⟩
        unfold wY_remove_64
        rw [cl, ed, q2, y15, c15, cn]
        refine ⟨iv, v15, nm_r (e' := ux_EN (upd en (d * 15 + q) 0)) (ux_EN_u0 (by omega)).symm ⟨vn, br_f h2 ?_⟩⟩
        exact ya_cl hFS.1 hFS.2.1 hD (ya_done hp (hQ _ (y262a hp rfl (by decide) h)))
end UX25
end
section
section UX26X
variable {ql pr : Int32} {ex : Int64} {kd ns np wo en st pp sp pc pg pn rg ds fi ow po pw pl qu ou : Nat → Int32}
variable {Q : SX → Prop} {p a f o n e : Nat}
theorem ux_vb0 : vp_nar .boolean 0 = 0 := by decide
theorem ux_vb1 : vp_nar .boolean 1 = 1 := by decide
theorem xa_o148 {x : Int32} (hp : p < 5) (ha : a < 4) (hf : f < 4) (ho : o < 8) (h : Q (ql, pr, ex, kd, ns, np, wo, en, st, pp, sp, pc, pg, pn, upd rg (p * 4 + a) (nI f), upd ds (p * 4 + f) (nI (1 + o)), fi, ow, upd po o x, pw, pl, qu, ou)) : wX_open_148 Q (nI p) (nI (p * 4 + a)) (nI f) (nI o) x (nI o) ql pr ex kd ns np wo en st pp sp pc pg pn rg ds fi ow po pw pl qu ou := by
  unfold wX_open_148
  rw [show nI p * 4 + nI f = nI (p * 4 + f) by rw [ux_mul_l, nI_add], ux_c (n := o) (by omega), ux_c (n := p * 4 + f) (by omega), ux_c (n := p * 4 + a) (by omega), show 1 + nI o = nI (1 + o) from nI_add 1 o]
  exact ⟨vp_in_nI ho (by decide), nm_e ⟨vp_in_nI (by omega) (by decide), nm_e ⟨vp_in_nI (by omega) (by decide), nm_e h⟩⟩⟩
theorem xa_o101 (hp : p < 5) (ha : a < 4) (hf : f < 4) (ho : o < 8) (hn : n < 10) (he : e < 4) (h : Q (ql, pr, ex, kd, ns, np, wo, en, st, pp, sp, pc, pg, pn, upd rg (p * 4 + a) (nI f), upd ds (p * 4 + f) (nI (1 + o)), upd fi o (nI n), upd ow o (if e = 0 then 0 else 1), upd po o (if e = 3 then ns n else 0), pw, pl, qu, ou)) : wX_open_101 Q (nI p) (nI (p * 4 + a)) (nI e) (nI f) (nI o) (nI n) ql pr ex kd ns np wo en st pp sp pc pg pn rg ds fi ow po pw pl qu ou := by
  have vo : vp_in (nI o) 8 := vp_in_nI ho (by decide)
  have co : (nI o).toNatClampNeg = o := ux_c (by omega)
  have cn : (nI n).toNatClampNeg = n := ux_c (by omega)
  have hcase : e = 0 ∨ e = 1 ∨ e = 2 ∨ e = 3 := by omega
  unfold wX_open_101
  rw [co]
  refine ⟨vo, nm_e ?_⟩
  rcases hcase with z | z | z | z
  · subst z
    refine br_t rfl ⟨vo, ?_⟩
    rw [co, ux_vb0]
    exact nm_e (br_f (by decide) (xa_o148 hp ha hf ho h))
  · subst z
    refine br_f (by decide) ⟨vo, ?_⟩
    rw [co, ux_vb1]
    exact nm_e (br_f (by decide) (xa_o148 hp ha hf ho h))
  · subst z
    refine br_f (by decide) ⟨vo, ?_⟩
    rw [co, ux_vb1]
    exact nm_e (br_f (by decide) (xa_o148 hp ha hf ho h))
  · subst z
    refine br_f (by decide) ⟨vo, ?_⟩
    rw [co, ux_vb1, cn]
    exact nm_e (br_t rfl ⟨vp_in_nI hn (by decide), xa_o148 hp ha hf ho h⟩)
theorem xa_o77 (hp : p < 5) (ha : a < 4) (hf : f < 4) (ho : o < 8) (hn0 : 0 < n) (hn : n < 10) (he : e < 4) (h : Q (ql, pr, ex, kd, (if e = 2 then upd ns n 0 else ns), np, wo, en, st, pp, sp, pc, pg, pn, upd rg (p * 4 + a) (nI f), upd ds (p * 4 + f) (nI (1 + o)), upd fi o (nI n), upd ow o (if e = 0 then 0 else 1), upd po o (if e = 3 then ns n else 0), pw, pl, qu, ou)) : wX_open_77 Q (nI p) (nI (p * 4 + a)) (nI e) (nI f) (nI o) (nI n) ql pr ex kd ns np wo en st pp sp pc pg pn rg ds fi ow po pw pl qu ou := by
  unfold wX_open_77
  refine br_f (ux_nz hn0 (by omega)) ?_
  by_cases h2 : e = 2
  · subst h2
    refine br_t rfl ⟨vp_in_nI hn (by decide), ?_⟩
    rw [ux_c (n := n) (by omega)]
    exact nm_e (xa_o101 hp ha hf ho hn (by omega) h)
  · rw [if_neg h2] at h
    exact br_f (ux_ne (b := 2) h2 (by omega) (by omega)) (xa_o101 hp ha hf ho hn he h)
theorem xa_o77f (hp : p < 5) {x2 x3 x4 x5 : Int32} (h : Q (ql, pr, ex, kd, ns, np, wo, en, st, pp, sp, pc, pg, pn, upd rg (p * 4 + 3) (-1), ds, fi, ow, po, pw, pl, qu, ou)) : wX_open_77 Q (nI p) x2 x3 x4 x5 0 ql pr ex kd ns np wo en st pp sp pc pg pn rg ds fi ow po pw pl qu ou :=
  br_t rfl (xa_fail hp h)
end UX26X
section UX26Y
variable {ql pr go : Int32} {ex : Int64} {kd ns le wo en et np st qp sp pn pg rg ee ds pc fi ow po pl pw qu ou : Nat → Int32}
variable {Q : SY → Prop} {p a f o n e : Nat}
theorem ya_o192 {x : Int32} (hp : p < 5) (ha : a < 4) (hf : f < 4) (ho : o < 8) (h : Q (ql, ex, pr, go, kd, le, wo, et, np, st, qp, sp, pn, pg, upd rg (p * 4 + a) (nI f), upd ee (p * 4 + f) (nI (1 + o)), pc, fi, ow, upd po o x, pl, pw, qu, ou)) : wY_open_192 Q (nI p) (nI a) (nI f) (nI o) x (nI o) ql ex pr go kd le wo et np st qp sp pn pg rg ee pc fi ow po pl pw qu ou := by
  unfold wY_open_192
  rw [show 4 * nI p + nI f = nI (p * 4 + f) by rw [ux_l_mul, nI_add, Nat.mul_comm], show 4 * nI p + nI a = nI (p * 4 + a) by rw [ux_l_mul, nI_add, Nat.mul_comm], ux_c (n := o) (by omega), ux_c (n := p * 4 + f) (by omega), ux_c (n := p * 4 + a) (by omega), show 1 + nI o = nI (1 + o) from nI_add 1 o]
  exact ⟨vp_in_nI ho (by decide), nm_e ⟨vp_in_nI (by omega) (by decide), nm_e ⟨vp_in_nI (by omega) (by decide), nm_e h⟩⟩⟩
theorem ya_o145 (hp : p < 5) (ha : a < 4) (hf : f < 4) (ho : o < 8) (hn : n < 10) (he : e < 4) (h : Q (ql, ex, pr, go, kd, le, wo, et, np, st, qp, sp, pn, pg, upd rg (p * 4 + a) (nI f), upd ee (p * 4 + f) (nI (1 + o)), pc, upd fi o (nI n), upd ow o (if e = 0 then 0 else 1), upd po o (if e = 3 then le n else 0), pl, pw, qu, ou)) : wY_open_145 Q (nI p) (nI a) (nI e) (nI n) (nI f) (nI o) ql ex pr go kd le wo et np st qp sp pn pg rg ee pc fi ow po pl pw qu ou := by
  have vo : vp_in (nI o) 8 := vp_in_nI ho (by decide)
  have co : (nI o).toNatClampNeg = o := ux_c (by omega)
  have cn : (nI n).toNatClampNeg = n := ux_c (by omega)
  have hcase : e = 0 ∨ e = 1 ∨ e = 2 ∨ e = 3 := by omega
  unfold wY_open_145
  rw [co]
  refine ⟨vo, nm_e ?_⟩
  rcases hcase with z | z | z | z
  · subst z
    refine br_t rfl ⟨vo, ?_⟩
    rw [co]
    exact nm_e (br_f (by decide) (ya_o192 hp ha hf ho h))
  · subst z
    refine br_f (by decide) ⟨vo, ?_⟩
    rw [co]
    exact nm_e (br_f (by decide) (ya_o192 hp ha hf ho h))
  · subst z
    refine br_f (by decide) ⟨vo, ?_⟩
    rw [co]
    exact nm_e (br_f (by decide) (ya_o192 hp ha hf ho h))
  · subst z
    refine br_f (by decide) ⟨vo, ?_⟩
    rw [co, cn]
    exact nm_e (br_t rfl ⟨vp_in_nI hn (by decide), ya_o192 hp ha hf ho h⟩)
theorem ya_o132 (hp : p < 5) (ha : a < 4) (hf : f < 4) (ho : o < 8) (hn : n < 10) (he : e < 4) (h : Q (ql, ex, pr, go, kd, (if e = 2 then upd le n 0 else le), wo, et, np, st, qp, sp, pn, pg, upd rg (p * 4 + a) (nI f), upd ee (p * 4 + f) (nI (1 + o)), pc, upd fi o (nI n), upd ow o (if e = 0 then 0 else 1), upd po o (if e = 3 then le n else 0), pl, pw, qu, ou)) : wY_open_132 Q (nI p) (nI a) (nI e) (nI n) (nI f) (nI o) ql ex pr go kd le wo et np st qp sp pn pg rg ee pc fi ow po pl pw qu ou := by
  unfold wY_open_132
  by_cases h2 : e = 2
  · subst h2
    refine br_t rfl ⟨vp_in_nI hn (by decide), ?_⟩
    rw [ux_c (n := n) (by omega)]
    exact nm_e (ya_o145 hp ha hf ho hn (by omega) h)
  · rw [if_neg h2] at h
    exact br_f (ux_ne (b := 2) h2 (by omega) (by omega)) (ya_o145 hp ha hf ho hn he h)
end UX26Y
section UX26
variable {ql pr : Int32} {ex : Int64} {kd ns np wo en st pp sp pc pg pn rg ds fi ow po pw pl qu ou : Nat → Int32}
variable {qp : Nat → Int32} {go : Int32} {B p s l a b m c : Nat}
/-- OPEN fails -/
theorem op_13f (hJ : ux_J B kd ns np en ds fi ow po st pp qp pc pn pl qu m c) (hN : ux_N qu m p) (hs : st p = 1) (H : ux_in sp pn pg p s l a b 13) {d e : Nat} (hd : d < 10) (ed : pc p = nI d) (hd2 : kd d = 2) (he : e < 4) (ee : (pg (p * 20 + s) >>> ((9 : Int32) &&& 31)) &&& 3 = nI e)
    (hw : ux_nf ds p 0 ∨ (∀ j, j < 8 → ux_hd ds (nI (1 + j))) ∨ (∃ q n, ux_ye en d (rg (p * 4 + a)) q n ∧ kd n ≠ 1) ∨ (ux_no en d (rg (p * 4 + a)) ∧ (e ≠ 2 ∨ ux_NC kd en d (rg (p * 4 + a))))) : ux_G (B + 1) p (nI m, nI c, ex + 1, kd, ns, np, wo, en, st, pp, sp, pc, pg, pn, rg, ds, fi, ow, po, pw, pl, qu, ou) ((nI m), ex, (nI c), go, kd, (ux_LN kd ns), wo, (ux_EN en), np, st, qp, sp, pn, pg, rg, (ux_ED ds), pc, fi, ow, po, pl, pw, qu, ou) := by
  obtain ⟨hF, hD, hO, hZ, hR, hU, hI, hL, hB⟩ := id hJ
  obtain ⟨hp, hi, ho, ha, ea, hb, eb⟩ := id H
  have cl : (nI p).toNatClampNeg = p := ux_c (by omega)
  have iv : vp_in (nI p) 5 := vp_in_nI hp (by decide)
  have ca : (nI (p * 4 + a)).toNatClampNeg = p * 4 + a := ux_c (by omega)
  have cb : (nI (p * 4 + b)).toNatClampNeg = p * 4 + b := ux_c (by omega)
  have c3 : (nI (p * 4 + 3)).toNatClampNeg = p * 4 + 3 := ux_c (by omega)
  have va : vp_in (nI (p * 4 + a)) 20 := vp_in_nI (by omega) (by decide)
  have vb : vp_in (nI (p * 4 + b)) 20 := vp_in_nI (by omega) (by decide)
  have v3 : vp_in (nI (p * 4 + 3)) 20 := vp_in_nI (by omega) (by decide)
  have e4 : 4 * nI p + nI a = nI (p * 4 + a) := by rw [ux_l_mul, nI_add, Nat.mul_comm]
  have f4 : 4 * nI p + nI b = nI (p * 4 + b) := by rw [ux_l_mul, nI_add, Nat.mul_comm]
  have x3 : nI p * 4 + 3 = nI (p * 4 + 3) := by rw [ux_mul_l, ux_add_l]
  have y3 : 4 * nI p + 3 = nI (p * 4 + 3) := by rw [ux_l_mul, ux_add_l, Nat.mul_comm]
  refine ux_G1 (r := 1) (go := 1) (rg := upd rg (p * 4 + 3) (-1)) (sp := upd sp p (sp p + 1)) (ex := ex + 1) (kd := kd) (ns := ns) (np := np) (wo := wo) (en := en) (st := st) (pp := pp) (pc := pc) (pg := pg) (pn := pn) (ds := ds) (fi := fi) (ow := ow) (po := po) (pw := pw) (pl := pl) (qu := qu) (ou := ou) (qp := qp) (m := m) (c := c) (fun _ h => xj_13 H (fun Q hQ => ?_)) (fun _ h => yj_13 H (fun Q hQ => ?_)) (ux_J_mono hJ (by omega)) hN (Or.inr ⟨rfl, hs⟩)
  · have hX : wX_open_24 Q (nI p) (nI m) (nI c) (ex + 1) kd ns np wo en st pp (upd sp p (sp p + 1)) pc pg pn rg ds fi ow po pw pl qu ou := xa_fail hp (hQ _ (x634a hp hs (by decide) h))
    have hX2 := hQ (nI m, nI c, ex + 1, kd, ns, np, wo, en, st, pp, upd sp p (sp p + 1), pc, pg, pn, upd rg (p * 4 + 3) (-1), ds, fi, ow, po, pw, pl, qu, ou) (x634a hp hs (by decide) h)
    rw [ee]
    unfold wpX_open
    dsimp only
    rw [cl, ca, ed]
    have hO : ∀ P : Int32 → Prop, (∀ o, o < 8 → ¬ (∀ j, j < 8 → ux_hd ds (nI (1 + j))) → P (nI o)) → ((∀ j, j < 8 → ux_hd ds (nI (1 + j))) → P (-1)) → wpX_freeOpening P (nI m, nI c, ex + 1, kd, ns, np, wo, en, st, pp, upd sp p (sp p + 1), pc, pg, pn, rg, ds, fi, ow, po, pw, pl, qu, ou) := by
      intro P h1 h2
      rcases ux_ls (fun o => ¬ ux_hd ds (nI (1 + o))) 8 with ⟨o, ho8, hoo, hoj⟩ | hno
      · exact xa_fo ho8 hoo (fun j hj => Classical.not_not.mp (hoj j hj)) (h1 o ho8 (fun z => hoo (z o ho8)))
      · exact xa_fo0 (fun j hj => Classical.not_not.mp (hno j hj)) (h2 (fun j hj => Classical.not_not.mp (hno j hj)))
    rcases ux_fdnf ds p 0 (by omega) with ⟨f, hf⟩ | hf
    · have hf4 := hf.2.1
      refine xa_nd (a := 0) hp hf (hO _ (fun o ho8 hne => br_f (nI_pos (by omega)) (br_t (nI_pos' (by omega)) ⟨iv, va, ?_⟩)) (fun _ => br_f (nI_pos (by omega)) (br_f (by decide) hX)))
      rcases hw with z | z | ⟨q, n, hye, hk⟩ | ⟨hno, hw⟩
      · exact absurd hf.2.2.1 (z.2 f (by omega) hf4)
      · exact absurd z hne
      · refine xa_fnD hd hye hk (br_t rfl ?_)
        by_cases h2 : e = 2
        · subst h2
          refine br_t rfl ⟨iv, va, ?_⟩
          refine xa_mk0 hF hd hd2 (Or.inr ⟨q, hye.1, hye.2.1, Or.inl ?_⟩) (xa_o77f hp hX2)
          rw [hye.2.2.2.2]; exact ux_nz hye.2.2.1 (by have := hye.2.2.2.1; omega)
        · exact br_f (ux_ne (b := 2) h2 (by omega) (by omega)) (xa_o77f hp hX2)
      · refine xa_fnN hd hno hF.1.1 (br_t rfl ?_)
        by_cases h2 : e = 2
        · subst h2
          refine br_t rfl ⟨iv, va, ?_⟩
          rcases hw with hw | hw
          · exact absurd rfl hw
          · exact xa_mk0 hF hd hd2 hw (xa_o77f hp hX2)
        · exact br_f (ux_ne (b := 2) h2 (by omega) (by omega)) (xa_o77f hp hX2)
    · exact xa_nd0 (a := 0) hp hf (hO _ (fun o ho8 hne => br_t (by decide) hX) (fun _ => br_t (by decide) hX))
  · have hX : wY_open_106 Q (nI p) (nI m) (ex + 1) (nI c) 1 kd (ux_LN kd ns) wo (ux_EN en) np st qp sp pn pg rg (ux_ED ds) pc fi ow po pl pw qu ou := ya_fail hp (hQ _ (y262a hp rfl (by decide) h))
    have hO : ∀ P : Int32 → Prop, (∀ o, o < 8 → ¬ (∀ j, j < 8 → ux_hd ds (nI (1 + j))) → P (nI o)) → ((∀ j, j < 8 → ux_hd ds (nI (1 + j))) → P (-1)) → wpY_smallestOpening P ((nI m), (ex + 1), (nI c), 1, kd, (ux_LN kd ns), wo, (ux_EN en), np, st, qp, sp, pn, pg, rg, (ux_ED ds), pc, fi, ow, po, pl, pw, qu, ou) := by
      intro P h1 h2
      rcases ux_ls (fun o => ¬ ux_hd ds (nI (1 + o))) 8 with ⟨o, ho8, hoo, hoj⟩ | hno
      · exact ya_fo hD ho8 hoo (fun j hj => Classical.not_not.mp (hoj j hj)) (h1 o ho8 (fun z => hoo (z o ho8)))
      · exact ya_fo0 hD (fun j hj => Classical.not_not.mp (hno j hj)) (h2 (fun j hj => Classical.not_not.mp (hno j hj)))
    have hDn : ∀ P : Int32 → Prop, (∀ f, f < 4 → ¬ ux_nf ds p 0 → P (nI f)) → (ux_nf ds p 0 → P (-1)) → wpY_newDescriptor P ((nI m), (ex + 1), (nI c), 1, kd, (ux_LN kd ns), wo, (ux_EN en), np, st, qp, sp, pn, pg, rg, (ux_ED ds), pc, fi, ow, po, pl, pw, qu, ou) (nI p) 0 := by
      intro P h1 h2
      rcases ux_fdnf ds p 0 (by omega) with ⟨f, hf⟩ | hf
      · exact ya_nd (a := 0) hD hp hf (h1 f hf.2.1 (fun z => absurd hf.2.2.1 (z.2 f (by omega) hf.2.1)))
      · exact ya_nd0 (a := 0) hD hp hf (h2 hf)
    have h89 : ∀ x5 z0 : Int32, ∀ f o : Nat, f < 4 → o < 8 → z0 = 0 → wY_open_89 Q (nI p) (nI a) (nI e) (rg (p * 4 + a)) x5 (nI f) (nI o) z0 (nI m) (ex + 1) (nI c) 1 kd (ux_LN kd ns) wo (ux_EN en) np st qp sp pn pg rg (ux_ED ds) pc fi ow po pl pw qu ou := by
      intro x5 z0 f o _ _ hz
      exact br_t hz hX
    have h89f : ∀ x5 x7 z0 : Int32, wY_open_89 Q (nI p) (nI a) (nI e) (rg (p * 4 + a)) x5 (-1) x7 z0 (nI m) (ex + 1) (nI c) 1 kd (ux_LN kd ns) wo (ux_EN en) np st qp sp pn pg rg (ux_ED ds) pc fi ow po pl pw qu ou := by
      intro x5 x7 z0
      by_cases hz : z0 = 0
      · exact br_t hz hX
      · exact br_f hz (br_t (by decide) hX)
    have h89o : ∀ x5 x6 z0 : Int32, wY_open_89 Q (nI p) (nI a) (nI e) (rg (p * 4 + a)) x5 x6 (-1) z0 (nI m) (ex + 1) (nI c) 1 kd (ux_LN kd ns) wo (ux_EN en) np st qp sp pn pg rg (ux_ED ds) pc fi ow po pl pw qu ou := by
      intro x5 x6 z0
      by_cases hz : z0 = 0
      · exact br_t hz hX
      · refine br_f hz ?_
        by_cases h6 : x6 < 0
        · exact br_t h6 hX
        · exact br_f h6 (br_f (by decide) hX)
    have hCE : ∀ P : Int32 → Prop, (ux_NC kd en d (rg (p * 4 + a)) → P 0) → (¬ ux_NC kd en d (rg (p * 4 + a)) → P 1) → wpY_canEnter P ((nI m), (ex + 1), (nI c), 1, kd, (ux_LN kd ns), wo, (ux_EN en), np, st, qp, sp, pn, pg, rg, (ux_ED ds), pc, fi, ow, po, pl, pw, qu, ou) (nI d) (rg (p * 4 + a)) := by
      intro P h1 h2
      by_cases hc : ux_NC kd en d (rg (p * 4 + a))
      · exact ya_ce0 hF.2.1 hd hc (h1 hc)
      · rcases ux_CEN hF d (rg (p * 4 + a)) with ⟨q, n, hc2⟩ | hc2
        · exact ya_ce1 hF.2.1 hd hc2 (h2 hc)
        · exact absurd hc2 hc
    rw [ee]
    unfold wpY_open
    dsimp only
    rw [e4, ca, cl, ed]
    refine ⟨va, nm_e ⟨iv, ?_⟩⟩
    rcases ux_noye hF.2.1 hd (rg (p * 4 + a)) with hno | ⟨q, n, hye, hk0, _⟩
    · have tail : ∀ x6 x7 : Int32, (¬ (e ≠ 2 ∨ ux_NC kd en d (rg (p * 4 + a))) → ∀ z0, wY_open_89 Q (nI p) (nI a) (nI e) (rg (p * 4 + a)) (-1) x6 x7 z0 (nI m) (ex + 1) (nI c) 1 kd (ux_LN kd ns) wo (ux_EN en) np st qp sp pn pg rg (ux_ED ds) pc fi ow po pl pw qu ou) →
          (((-1 : Int32) < 0 → ((nI e = 2 → (vp_in (nI p) 5 ∧ wpY_canEnter (fun r => ((r = 0 → wY_open_88 Q (nI p) (nI a) (nI e) (rg (p * 4 + a)) (-1) x6 x7 (nI m) (ex + 1) (nI c) 1 kd (ux_LN kd ns) wo (ux_EN en) np st qp sp pn pg rg (ux_ED ds) pc fi ow po pl pw qu ou) ∧ (¬ r = 0 → wY_open_89 Q (nI p) (nI a) (nI e) (rg (p * 4 + a)) (-1) x6 x7 1 (nI m) (ex + 1) (nI c) 1 kd (ux_LN kd ns) wo (ux_EN en) np st qp sp pn pg rg (ux_ED ds) pc fi ow po pl pw qu ou))) ((nI m), (ex + 1), (nI c), 1, kd, (ux_LN kd ns), wo, (ux_EN en), np, st, qp, sp, pn, pg, rg, (ux_ED ds), pc, fi, ow, po, pl, pw, qu, ou) (nI d) (rg (p * 4 + a)))) ∧ (¬ nI e = 2 → wY_open_88 Q (nI p) (nI a) (nI e) (rg (p * 4 + a)) (-1) x6 x7 (nI m) (ex + 1) (nI c) 1 kd (ux_LN kd ns) wo (ux_EN en) np st qp sp pn pg rg (ux_ED ds) pc fi ow po pl pw qu ou))) ∧ (¬ (-1 : Int32) < 0 → (vp_in (-1) 10 ∧ ((kd (-1 : Int32).toNatClampNeg = 1 → wY_open_89 Q (nI p) (nI a) (nI e) (rg (p * 4 + a)) (-1) x6 x7 1 (nI m) (ex + 1) (nI c) 1 kd (ux_LN kd ns) wo (ux_EN en) np st qp sp pn pg rg (ux_ED ds) pc fi ow po pl pw qu ou) ∧ (¬ kd (-1 : Int32).toNatClampNeg = 1 → wY_open_89 Q (nI p) (nI a) (nI e) (rg (p * 4 + a)) (-1) x6 x7 0 (nI m) (ex + 1) (nI c) 1 kd (ux_LN kd ns) wo (ux_EN en) np st qp sp pn pg rg (ux_ED ds) pc fi ow po pl pw qu ou))))) := by
        intro x6 x7 hx
        refine br_t (by decide) ?_
        by_cases h2 : e = 2
        · subst h2
          refine br_t rfl ⟨iv, hCE _ (fun _ => br_t rfl (br_t rfl hX)) (fun hc => br_f (by decide) (hx ?_ 1))⟩
          intro z
          rcases z with z | z
          · exact z rfl
          · exact hc z
        · exact br_f (ux_ne (b := 2) h2 (by omega) (by omega)) (br_t rfl hX)
      refine ya_nmN hd hno (hDn _ (fun f hf hnf => hO _ (fun o ho8 hne => ?_) (fun _ => ?_)) (fun _ => hO _ (fun o ho8 hne => ?_) (fun _ => ?_)))
      · refine tail _ _ (fun hz => ?_)
        exfalso
        rcases hw with z | z | ⟨q, n, hye, hk⟩ | ⟨_, z⟩
        · exact hnf z
        · exact hne z
        · rcases hno with ⟨q2, g1, g2, g3⟩ | hr
          · have e1 := hye.2.1
            rw [g2] at e1
            have e2 := ux_inj e1 (by omega) (by have := hye.1; omega)
            have e3 := hye.2.2.2.2
            rw [← e2, g3] at e3
            exact ux_nz hye.2.2.1 (by have := hye.2.2.2.1; omega) e3.symm
          · have e1 := hye.2.1
            have h15 := hye.1
            rw [e1] at hr
            rcases hr with hr | ⟨_, hr⟩
            · exact nI_pos (by omega) hr
            · exact nI_ge h15 (by omega) hr
        · exact hz z
      · exact tail _ _ (fun _ z0 => h89o _ _ z0)
      · exact tail _ _ (fun _ z0 => h89f _ _ z0)
      · exact tail _ _ (fun _ z0 => h89f _ _ z0)
    · have hn := hye.2.2.2.1
      have cn : (nI n).toNatClampNeg = n := ux_c (by omega)
      have vn : vp_in (nI n) 10 := vp_in_nI hn (by decide)
      refine ya_nmY hd hye (hDn _ (fun f hf hnf => hO _ (fun o ho8 hne => br_f (nI_pos (by omega)) ⟨vn, ?_⟩) (fun _ => br_f (nI_pos (by omega)) ⟨vn, ?_⟩)) (fun _ => hO _ (fun o ho8 hne => br_f (nI_pos (by omega)) ⟨vn, ?_⟩) (fun _ => br_f (nI_pos (by omega)) ⟨vn, ?_⟩)))
      · rw [cn]
        by_cases h1 : kd n = 1
        · exfalso
          rcases hw with z | z | ⟨q2, n2, hye2, hk⟩ | ⟨hno, _⟩
          · exact hnf z
          · exact hne z
          · have e1 := hye2.2.1
            rw [hye.2.1] at e1
            have e2 := ux_inj e1 (by have := hye.1; omega) (by have := hye2.1; omega)
            have e3 := hye2.2.2.2.2
            rw [← e2, hye.2.2.2.2] at e3
            have e4' := ux_inj e3 (by omega) (by have := hye2.2.2.2.1; omega)
            exact hk (by rw [← e4']; exact h1)
          · rcases hno with ⟨q2, g1, g2, g3⟩ | hr
            · have e1 := hye.2.1
              rw [g2] at e1
              have e2 := ux_inj e1 (by omega) (by have := hye.1; omega)
              have e3 := hye.2.2.2.2
              rw [← e2, g3] at e3
              exact ux_nz hye.2.2.1 (by omega) e3.symm
            · have e1 := hye.2.1
              have h15 := hye.1
              rw [e1] at hr
              rcases hr with hr | ⟨_, hr⟩
              · exact nI_pos (by omega) hr
              · exact nI_ge h15 (by omega) hr
        · exact br_f h1 (br_t rfl hX)
      · exact br_c (fun _ => h89o _ _ _) (fun _ => h89o _ _ _)
      · exact br_c (fun _ => h89f _ _ _) (fun _ => h89f _ _ _)
      · exact br_c (fun _ => h89f _ _ _) (fun _ => h89f _ _ _)
theorem op_13 (hJ : ux_J B kd ns np en ds fi ow po st pp qp pc pn pl qu m c) (hN : ux_N qu m p) (hs : st p = 1) (H : ux_in sp pn pg p s l a b 13) : ux_G (B + 1) p (nI m, nI c, ex + 1, kd, ns, np, wo, en, st, pp, sp, pc, pg, pn, rg, ds, fi, ow, po, pw, pl, qu, ou) ((nI m), ex, (nI c), go, kd, (ux_LN kd ns), wo, (ux_EN en), np, st, qp, sp, pn, pg, rg, (ux_ED ds), pc, fi, ow, po, pl, pw, qu, ou) := by
  obtain ⟨hF, hD, hO, hZ, hR, hU, hI, hL, hB⟩ := id hJ
  obtain ⟨hp, hi, ho, ha, ea, hb, eb⟩ := id H
  have cl : (nI p).toNatClampNeg = p := ux_c (by omega)
  have iv : vp_in (nI p) 5 := vp_in_nI hp (by decide)
  have ca : (nI (p * 4 + a)).toNatClampNeg = p * 4 + a := ux_c (by omega)
  have cb : (nI (p * 4 + b)).toNatClampNeg = p * 4 + b := ux_c (by omega)
  have c3 : (nI (p * 4 + 3)).toNatClampNeg = p * 4 + 3 := ux_c (by omega)
  have va : vp_in (nI (p * 4 + a)) 20 := vp_in_nI (by omega) (by decide)
  have vb : vp_in (nI (p * 4 + b)) 20 := vp_in_nI (by omega) (by decide)
  have v3 : vp_in (nI (p * 4 + 3)) 20 := vp_in_nI (by omega) (by decide)
  have e4 : 4 * nI p + nI a = nI (p * 4 + a) := by rw [ux_l_mul, nI_add, Nat.mul_comm]
  have f4 : 4 * nI p + nI b = nI (p * 4 + b) := by rw [ux_l_mul, nI_add, Nat.mul_comm]
  have x3 : nI p * 4 + 3 = nI (p * 4 + 3) := by rw [ux_mul_l, ux_add_l]
  have y3 : 4 * nI p + 3 = nI (p * 4 + 3) := by rw [ux_l_mul, ux_add_l, Nat.mul_comm]
  obtain ⟨⟨d, hd, ed, hd2⟩, _⟩ := (hR p hp).2.2 (Or.inl hs)
  obtain ⟨e, he, ee⟩ := ux_b2 (pg (p * 20 + s) >>> ((9 : Int32) &&& 31))
  have eS := ((hF.2.2.2.2 d hd).1 hd2).1
  rcases ux_fdnf ds p 0 (by omega) with ⟨f, hf⟩ | hf
  · rcases ux_ls (fun o => ¬ ux_hd ds (nI (1 + o))) 8 with ⟨o, ho8, hoo, hoj⟩ | hno
    · have hoj2 : ∀ j, j < o → ux_hd ds (nI (1 + j)) := fun j hj => Classical.not_not.mp (hoj j hj)
      have hoo2 : ∀ j, j < 20 → ds j ≠ nI (1 + o) := fun j hj z => hoo ⟨j, hj, z⟩
      have hf4 := hf.2.1
      rcases ux_noye hF.2.1 hd (rg (p * 4 + a)) with hno | ⟨q, n, hye, hk0, _⟩
      · by_cases h2 : e = 2
        · rcases ux_CEN hF d (rg (p * 4 + a)) with ⟨q, n, hc⟩ | hc
          · subst h2
            obtain ⟨h1, h2, h3, h4, h5, h6, h7, h8⟩ := id hc
            have hdn : d ≠ n := ux_nd hd2 (by rw [h6]; exact ux_n02)
            refine ux_G1 (r := 1) (go := 1) (kd := upd kd n 1) (ns := upd (upd (upd ns n 0) d (upd ns n 0 d + 1)) n 0) (np := upd np n (nI d)) (en := upd en (d * 15 + q) (nI n)) (fi := upd fi o (nI n)) (ow := upd ow o 1) (po := upd po o 0) (ds := upd ds (p * 4 + f) (nI (1 + o))) (rg := upd rg (p * 4 + a) (nI f)) (sp := upd sp p (sp p + 1)) (ex := ex + 1) (wo := wo) (st := st) (pp := pp) (pc := pc) (pg := pg) (pn := pn) (pw := pw) (pl := pl) (qu := qu) (ou := ou) (qp := qp) (m := m) (c := c) (fun _ h => xj_13 H (fun Q hQ => ?_)) (fun _ h => yj_13 H (fun Q hQ => ?_)) (ux_J_mono (ux_J_opn (q := 0) (ux_J_ns (q := 0) (ux_J_new hJ h4 h5 h6 hd hd2 h1 h3 h8 (Or.inl rfl)) ux_us (by omega)) hp hs hf4 hf.2.2.1 ho8 hoo2 h4 h5 ux_us (Or.inr rfl) (by omega)) (by omega)) hN (Or.inr ⟨rfl, hs⟩)
            · rw [ee]
              unfold wpX_open
              dsimp only
              rw [cl, ca, ed]
              exact xa_nd (a := 0) hp hf (xa_fo ho8 hoo hoj2 (br_f (nI_pos (by omega)) (br_t (nI_pos' (by omega)) ⟨iv, va, xa_fnN hd hno hF.1.1 (br_t rfl (br_t rfl ⟨iv, va, xa_mk1 hd eS hc (xa_o77 hp ha hf4 ho8 h4 h5 (by omega) (hQ _ (x634a hp hs (by decide) h)))⟩))⟩)))
            · rw [ux_LN_u (by rw [ux_us]; exact ux_n12), ux_LN_new (by rw [h6]; exact ux_n02) hd2, ux_ED_u, ux_cvo o ho8] at h
              rw [ee]
              unfold wpY_open
              dsimp only
              rw [e4, ca, cl, ed]
              refine ⟨va, nm_e ⟨iv, ya_nmN hd hno (ya_nd (a := 0) hD hp hf (ya_fo hD ho8 hoo hoj2 (br_t (by decide) (br_t rfl ⟨iv, ya_ce1 hF.2.1 hd hc (br_f (by decide) (br_f (by decide) (br_f (nI_pos (by omega)) (br_t (nI_pos' (by omega)) (br_f (by decide) ⟨iv, ?_⟩)))))⟩))))⟩⟩
              rw [cl, ed]
              exact ya_nw hF.2.1 hd hc (ya_o132 hp ha hf4 ho8 h5 (by omega) (hQ _ (y262a hp rfl (by decide) h)))
          · exact op_13f hJ hN hs H hd ed hd2 he ee (Or.inr (Or.inr (Or.inr ⟨hno, Or.inr hc⟩)))
        · exact op_13f hJ hN hs H hd ed hd2 he ee (Or.inr (Or.inr (Or.inr ⟨hno, Or.inl h2⟩)))
      · by_cases h1 : kd n = 1
        · have hn := hye.2.2.2.1
          have hn0 := hye.2.2.1
          have cn : (nI n).toNatClampNeg = n := ux_c (by omega)
          have vn : vp_in (nI n) 10 := vp_in_nI hn (by decide)
          obtain ⟨g, hg, eg⟩ := (hF.2.2.2.2 n hn).2 h1
          have eL : ux_LN kd ns n = ns n := ux_LN_f (by rw [h1]; exact ux_n12)
          have eLN : ux_LN kd (if e = 2 then upd ns n 0 else ns) = if e = 2 then upd (ux_LN kd ns) n 0 else ux_LN kd ns := by
            by_cases h2 : e = 2
            · rw [if_pos h2, if_pos h2]; exact ux_LN_u (by rw [h1]; exact ux_n12)
            · rw [if_neg h2, if_neg h2]
          refine ux_G1 (r := 1) (go := 1) (ns := (if e = 2 then upd ns n 0 else ns)) (fi := upd fi o (nI n)) (ow := upd ow o (if e = 0 then 0 else 1)) (po := upd po o (if e = 3 then ns n else 0)) (ds := upd ds (p * 4 + f) (nI (1 + o))) (rg := upd rg (p * 4 + a) (nI f)) (sp := upd sp p (sp p + 1)) (ex := ex + 1) (kd := kd) (np := np) (wo := wo) (en := en) (st := st) (pp := pp) (pc := pc) (pg := pg) (pn := pn) (pw := pw) (pl := pl) (qu := qu) (ou := ou) (qp := qp) (m := m) (c := c) (fun _ h => xj_13 H (fun Q hQ => ?_)) (fun _ h => yj_13 H (fun Q hQ => ?_)) ?_ hN (Or.inr ⟨rfl, hs⟩)
          · rw [ee]
            unfold wpX_open
            dsimp only
            rw [cl, ca, ed]
            exact xa_nd (a := 0) hp hf (xa_fo ho8 hoo hoj2 (br_f (nI_pos (by omega)) (br_t (nI_pos' (by omega)) ⟨iv, va, xa_fnY hd hye h1 (br_f (ux_nz hn0 (by omega)) (xa_o77 hp ha hf4 ho8 hn0 hn he (hQ _ (x634a hp hs (by decide) h))))⟩)))
          · rw [eLN, ux_ED_u, ux_cvo o ho8, ← eL] at h
            rw [ee]
            unfold wpY_open
            dsimp only
            rw [e4, ca, cl, ed]
            exact ⟨va, nm_e ⟨iv, ya_nmY hd hye (ya_nd (a := 0) hD hp hf (ya_fo hD ho8 hoo hoj2 (br_f (nI_pos (by omega)) ⟨vn, br_t (by rw [cn]; exact h1) (br_f (by decide) (br_f (nI_pos (by omega)) (br_t (nI_pos' (by omega)) (br_t (nI_pos' (by omega)) (ya_o132 hp ha hf4 ho8 hn he (hQ _ (y262a hp rfl (by decide) h)))))))⟩)))⟩⟩
          · have epo : (if e = 3 then ns n else 0) = nI (if e = 3 then g else 0) := by
              by_cases h3 : e = 3
              · rw [if_pos h3, if_pos h3]; exact eg
              · rw [if_neg h3, if_neg h3]; rfl
            have hq : (if e = 3 then g else 0) ≤ 20 := by
              by_cases h3 : e = 3
              · rw [if_pos h3]; exact hg
              · rw [if_neg h3]; omega
            have hw : (if e = 0 then (0 : Int32) else 1) = 0 ∨ (if e = 0 then (0 : Int32) else 1) = 1 := by
              by_cases h3 : e = 0
              · exact Or.inl (if_pos h3)
              · exact Or.inr (if_neg h3)
            rw [epo]
            by_cases h2 : e = 2
            · rw [if_pos h2]
              exact ux_J_mono (ux_J_opn (ux_J_ns (q := 0) hJ h1 (by omega)) hp hs hf4 hf.2.2.1 ho8 hoo2 hn0 hn h1 hw hq) (by omega)
            · rw [if_neg h2]
              exact ux_J_mono (ux_J_opn hJ hp hs hf4 hf.2.2.1 ho8 hoo2 hn0 hn h1 hw hq) (by omega)
        · exact op_13f hJ hN hs H hd ed hd2 he ee (Or.inr (Or.inr (Or.inl ⟨q, n, hye, h1⟩)))
    · exact op_13f hJ hN hs H hd ed hd2 he ee (Or.inr (Or.inl (fun j hj => Classical.not_not.mp (hno j hj))))
  · exact op_13f hJ hN hs H hd ed hd2 he ee (Or.inl hf)
end UX26
end
section
section UX27
variable {ql pr : Int32} {ex : Int64} {kd ns np wo en st pp sp pc pg pn rg ds fi ow po pw pl qu ou : Nat → Int32}
variable {qp : Nat → Int32} {go : Int32} {B p s l a b m c : Nat}
theorem ux_ex (hJ : ux_J B kd ns np en ds fi ow po st pp qp pc pn pl qu m c) (hN : ux_N qu m p) (hs : st p = 1) (hp : p < 5) (hB : B < 1000000) (hnw : ∀ s l, ux_ip sp pn p s l → ux_NW pg rg ds pl p s) : ux_G (B + 1) p (nI m, nI c, ex + 1, kd, ns, np, wo, en, st, pp, sp, pc, pg, pn, rg, ds, fi, ow, po, pw, pl, qu, ou) ((nI m), ex, (nI c), go, kd, (ux_LN kd ns), wo, (ux_EN en), np, st, qp, sp, pn, pg, rg, (ux_ED ds), pc, fi, ow, po, pl, pw, qu, ou) := by
  have hR := hJ.2.2.2.2.1
  obtain ⟨_, l, hl, el⟩ := (hR p hp).2.2 (Or.inl hs)
  rcases ux_ipup (sp := sp) hl el with ⟨s, hi⟩ | hu
  · obtain ⟨a, ha, ea⟩ := ux_b2 (pg (p * 20 + s) >>> ((5 : Int32) &&& 31))
    obtain ⟨b, hb, eb⟩ := ux_b2 (pg (p * 20 + s) >>> ((7 : Int32) &&& 31))
    obtain ⟨o, ho, eo⟩ := ux_b5 (pg (p * 20 + s))
    have H : ux_in sp pn pg p s l a b (nI o) := ⟨hp, hi, eo, ha, ea, hb, eb⟩
    have hcs : o = 0 ∨ o = 1 ∨ o = 2 ∨ o = 3 ∨ o = 4 ∨ o = 5 ∨ o = 6 ∨ o = 7 ∨ o = 8 ∨ o = 9 ∨ o = 10 ∨ o = 11 ∨ o = 12 ∨ o = 13 ∨ o = 14 ∨ o = 15 ∨ o = 16 ∨ o = 17 ∨ o = 18 ∨ o = 19 ∨ o = 20 ∨ o = 21 ∨ o = 22 ∨ o = 23 ∨ o = 24 ∨ o = 25 ∨ o = 26 ∨ o = 27 ∨ o = 28 ∨ o = 29 ∨ o = 30 ∨ o = 31 := by omega
    rcases hcs with z | z | z | z | z | z | z | z | z | z | z | z | z | z | z | z | z | z | z | z | z | z | z | z | z | z | z | z | z | z | z | z
    · subst z
      exact op_0 hJ hN hs H
    · subst z
      exact op_1 hJ hN hs H
    · subst z
      exact op_2 hJ hN hs H
    · subst z
      exact op_3 hJ hN hs H
    · subst z
      exact op_4 hJ hN hs H
    · subst z
      exact op_5 hJ hN hs H
    · subst z
      exact op_6 hJ hN hs H
    · subst z
      exact op_7 hJ hN hs H
    · subst z
      exact op_8 hJ hN hs H
    · subst z
      exact op_9 hJ hN hs H
    · subst z
      exact op_10 hJ hN hs H
    · subst z
      exact op_11 hJ hN hs H
    · subst z
      exact op_12 hJ hN hs H
    · subst z
      exact op_13 hJ hN hs H
    · subst z
      exact op_14 hJ hN hs H
    · subst z
      exact op_15 hJ hN hs H
    · subst z
      exact op_16 hJ hN hs H (hnw s l hi)
    · subst z
      exact op_17 hJ hN hs H
    · subst z
      exact op_18 hJ hN hs H
    · subst z
      exact op_19 hJ hN hs H
    · subst z
      exact op_20 hJ hN hs H
    · subst z
      exact op_21 hJ hN hs H
    · subst z
      exact op_22 hJ hN hs H
    · subst z
      exact op_23 hJ hN hs H
    · subst z
      exact op_24 hJ hN hs H hB
    · subst z
      exact op_25 hJ hN hs H
    · subst z
      exact op_26 hJ hN hs H
    · subst z
      exact op_27 hJ hN hs H
    · subst z
      exact op_28 hJ hN hs H
    · subst z
      exact op_29 hJ hN hs H
    · subst z
      exact op_30 hJ hN hs H
    · subst z
      exact op_31 hJ hN hs H
  · exact op_out hJ hN hs hp hu
/-- the states between turns -/
def ux_A (B : Nat) (u : SX) (v : SY) : Prop := ∃ (ex : Int64) (kd ns np wo en st pp sp pc pg pn rg ds fi ow po pw pl qu ou qp : Nat → Int32) (go : Int32) (m c : Nat),
  u = (nI m, nI c, ex, kd, ns, np, wo, en, st, pp, sp, pc, pg, pn, rg, ds, fi, ow, po, pw, pl, qu, ou) ∧ v = ((nI m), ex, (nI c), go, kd, (ux_LN kd ns), wo, (ux_EN en), np, st, qp, sp, pn, pg, rg, (ux_ED ds), pc, fi, ow, po, pl, pw, qu, ou) ∧ ux_J B kd ns np en ds fi ow po st pp qp pc pn pl qu m c
theorem ux_Ai (hJ : ux_J B kd ns np en ds fi ow po st pp qp pc pn pl qu m c) : ux_A B (nI m, nI c, ex, kd, ns, np, wo, en, st, pp, sp, pc, pg, pn, rg, ds, fi, ow, po, pw, pl, qu, ou) ((nI m), ex, (nI c), go, kd, (ux_LN kd ns), wo, (ux_EN en), np, st, qp, sp, pn, pg, rg, (ux_ED ds), pc, fi, ow, po, pl, pw, qu, ou) :=
  ⟨ex, kd, ns, np, wo, en, st, pp, sp, pc, pg, pn, rg, ds, fi, ow, po, pw, pl, qu, ou, qp, go, m, c, rfl, rfl, hJ⟩
theorem ux_A_mono {u : SX} {v : SY} {C : Nat} (h : ux_A B u v) (hB : B ≤ C) : ux_A C u v := by
  obtain ⟨ex, kd, ns, np, wo, en, st, pp, sp, pc, pg, pn, rg, ds, fi, ow, po, pw, pl, qu, ou, qp, go, m, c, h1, h2, hJ⟩ := h
  exact ⟨ex, kd, ns, np, wo, en, st, pp, sp, pc, pg, pn, rg, ds, fi, ow, po, pw, pl, qu, ou, qp, go, m, c, h1, h2, ux_J_mono hJ hB⟩
/-- the end of a turn -/
theorem ux_fin (hp : p < 5) (hJ : ux_J B kd ns np en ds fi ow po st pp qp pc pn pl qu m c) (hN : ux_N qu m p) : ∃ u v, ux_A B u v ∧ (∀ post : SX → Prop, post u → wX_takeTurn_71 post (nI p) (nI m) (nI c) ex kd ns np wo en st pp sp pc pg pn rg ds fi ow po pw pl qu ou) ∧ (∀ post : SY → Prop, post v → wY_turn_53 post (nI p) (nI m) ex (nI c) go kd (ux_LN kd ns) wo (ux_EN en) np st qp sp pn pg rg (ux_ED ds) pc fi ow po pl pw qu ou) := by
  have cl : (nI p).toNatClampNeg = p := ux_c (by omega)
  have iv : vp_in (nI p) 5 := vp_in_nI hp (by decide)
  by_cases hs : st p = 1
  · obtain ⟨hm, hJ2⟩ := ux_J_join hJ hp hs hN
    refine ⟨_, _, ux_Ai (ex := ex) (wo := wo) (sp := sp) (pg := pg) (rg := rg) (pw := pw) (ou := ou) (go := go) hJ2, fun post h => ?_, fun post h => ?_⟩
    · unfold wX_takeTurn_71
      rw [cl]
      exact ⟨iv, br_t hs (xa_jq hp hm h)⟩
    · unfold wY_turn_53
      rw [cl]
      refine ⟨iv, br_t hs (ya_jq hp (by omega) ?_)⟩
      rw [ux_ue hs]
      exact h
  · refine ⟨_, _, ux_Ai (ex := ex) (wo := wo) (sp := sp) (pg := pg) (rg := rg) (pw := pw) (ou := ou) (go := go) hJ, fun post h => ?_, fun post h => ?_⟩
    · unfold wX_takeTurn_71
      rw [cl]
      exact ⟨iv, br_f hs h⟩
    · unfold wY_turn_53
      rw [cl]
      exact ⟨iv, br_f hs h⟩
theorem ux_tl (hp : p < 5) : ∀ t i B r u v, i + t = 3 → B + t < 1000000 → ux_T B p r u v → ∃ u2 v2, ux_A (B + t) u2 v2 ∧ (∀ post : SX → Prop, post u2 → match u with | (ql, pr, ex, kd, ns, np, wo, en, st, pp, sp, pc, pg, pn, rg, ds, fi, ow, po, pw, pl, qu, ou) => wX_takeTurn_16 post (nI p) (t + 1) r (nI i) ql pr ex kd ns np wo en st pp sp pc pg pn rg ds fi ow po pw pl qu ou) ∧ (∀ post : SY → Prop, post v2 → match v with | (ql, ex, pr, go, kd, ns, wo, en, np, st, qp, sp, pn, pg, rg, ds, pc, fi, ow, po, pl, pw, qu, ou) => wY_turn_16 post (nI p) (t + 1) r (nI i) ql ex pr go kd ns wo en np st qp sp pn pg rg ds pc fi ow po pl pw qu ou) := by
  intro t
  induction t with
  | zero =>
    intro i B r u v hi hB hT
    obtain ⟨ex, kd, ns, np, wo, en, st, pp, sp, pc, pg, pn, rg, ds, fi, ow, po, pw, pl, qu, ou, qp, go, m, c, rfl, rfl, hJ, hN, hr⟩ := hT
    obtain ⟨u2, v2, hA, h1, h2⟩ := ux_fin (ex := ex) (wo := wo) (sp := sp) (pg := pg) (rg := rg) (pw := pw) (ou := ou) (go := go) hp hJ hN
    have ei : i = 3 := by omega
    subst ei
    exact ⟨u2, v2, hA, fun post h => br_t (by decide) (h1 post h), fun post h => br_t (by decide) (h2 post h)⟩
  | succ t ih =>
    intro i B r u v hi hB hT
    obtain ⟨ex, kd, ns, np, wo, en, st, pp, sp, pc, pg, pn, rg, ds, fi, ow, po, pw, pl, qu, ou, qp, go, m, c, rfl, rfl, hJ, hN, hr⟩ := hT
    have h3 : ¬ (3 : Int32) ≤ nI i := nI_ge (b := 3) (by omega) (by decide)
    have cl : (nI p).toNatClampNeg = p := ux_c (by omega)
    have iv : vp_in (nI p) 5 := vp_in_nI hp (by decide)
    rcases hr with hr | ⟨hr, hs⟩
    · subst hr
      obtain ⟨u2, v2, hA, h1, h2⟩ := ux_fin (ex := ex) (wo := wo) (sp := sp) (pg := pg) (rg := rg) (pw := pw) (ou := ou) (go := go) hp hJ hN
      exact ⟨u2, v2, ux_A_mono hA (by omega), fun post h => br_f h3 (br_t rfl (h1 post h)), fun post h => br_f h3 (br_t rfl (h2 post h))⟩
    · subst hr
      obtain ⟨r, hr, hnw, hX, hY⟩ := ux_ww (ql := nI m) (pr := nI c) (ex := ex) (ns := ns) (np := np) (wo := wo) (en := en) (sp := sp) (pg := pg) (rg := rg) (fi := fi) (ow := ow) (po := po) (pw := pw) (pl := pl) (qu := qu) (ou := ou) (go := go) hJ.2.1 hJ.2.2.2.2.1 hp (Or.inl hs)
      rcases hr with hr | hr
      · subst hr
        obtain ⟨r, u1, u2, v2, gX, gF, gY, gT⟩ := ux_ex (ex := ex) (wo := wo) (sp := sp) (pg := pg) (rg := rg) (pw := pw) (ou := ou) (go := go) hJ hN hs hp (by omega) (hnw rfl)
        obtain ⟨u3, v3, hA, k1, k2⟩ := ih (i + 1) (B + 1) r u2 v2 (by omega) (by omega) gT
        refine ⟨u3, v3, ux_A_mono hA (by omega), fun post h => ?_, fun post h => ?_⟩
        · refine br_f h3 (br_f (by decide) (hX _ (br_t rfl (nm_e (gX _ ?_)))))
          obtain ⟨ql, pr, ex, kd, ns, np, wo, en, st, pp, sp, pc, pg, pn, rg, ds, fi, ow, po, pw, pl, qu, ou⟩ := u1
          refine gF _ ?_
          obtain ⟨ql, pr, ex, kd, ns, np, wo, en, st, pp, sp, pc, pg, pn, rg, ds, fi, ow, po, pw, pl, qu, ou⟩ := u2
          exact nm_r (nI_1 i) (k1 post h)
        · refine br_f h3 (br_f (by decide) (hY _ (br_t rfl (gY _ ?_))))
          obtain ⟨ql, ex, pr, go, kd, ns, wo, en, np, st, qp, sp, pn, pg, rg, ds, pc, fi, ow, po, pl, pw, qu, ou⟩ := v2
          exact nm_r (nI_1 i) (k2 post h)
      · subst hr
        have hJ2 := ux_J_stop hJ hs hN
        refine ⟨_, _, ux_A_mono (ux_Ai (ex := ex) (wo := wo) (sp := sp) (pg := pg) (rg := rg) (pw := pw) (ou := ou) (go := go) hJ2) (by omega), fun post h => ?_, fun post h => ?_⟩
        · refine br_f h3 (br_f (by decide) (hX _ (br_f (by decide) ⟨iv, ?_⟩)))
          rw [cl]
          refine nm_e (nm_r (nI_1 i) ?_)
          have h71 : wX_takeTurn_71 post (nI p) (nI m) (nI c) ex kd ns np wo en (upd st p 2) pp sp pc pg pn rg ds fi ow po pw pl qu ou := by
            unfold wX_takeTurn_71
            rw [cl, ux_us]
            exact ⟨iv, br_f (by decide) h⟩
          by_cases h4 : (3 : Int32) ≤ nI (i + 1)
          · exact br_t h4 h71
          · exact br_f h4 (br_t rfl h71)
        · refine br_f h3 (br_f (by decide) (hY _ (br_f (by decide) ⟨iv, ?_⟩)))
          rw [cl]
          exact nm_e h
theorem ux_turn (hJ : ux_J B kd ns np en ds fi ow po st pp qp pc pn pl qu m c) (hm : 0 < m) (hB : B + 3 < 1000000) : ∃ u v, ux_A (B + 3) u v ∧ (∀ post : SX → Prop, post u → wpX_takeTurn post (nI m, nI c, ex, kd, ns, np, wo, en, st, pp, sp, pc, pg, pn, rg, ds, fi, ow, po, pw, pl, qu, ou)) ∧ (∀ post : SY → Prop, post v → wpY_turn post ((nI m), ex, (nI c), go, kd, (ux_LN kd ns), wo, (ux_EN en), np, st, qp, sp, pn, pg, rg, (ux_ED ds), pc, fi, ow, po, pl, pw, qu, ou)) := by
  obtain ⟨p, hp, e0, hs⟩ := hJ.2.2.2.2.2.1.2.1 0 hm
  have hm5 := hJ.2.2.2.2.2.1.1
  obtain ⟨hJ2, hN2⟩ := ux_J_take (p := p) hJ
  obtain ⟨u, v, hA, h1, h2⟩ := ux_tl hp 3 0 B 1 _ _ (by omega) (by omega) ⟨ex, kd, ns, np, wo, en, st, pp, sp, pc, pg, pn, rg, ds, fi, ow, po, pw, pl, (ux_lk qu p m).1, ou, qp, go, (ux_lk qu p m).2, c, rfl, rfl, hJ2, hN2, Or.inr ⟨rfl, hs⟩⟩
  refine ⟨u, v, hA, fun post h => ?_, fun post h => ?_⟩
  · exact nm_r e0 (xa_lq hm5 ⟨4, h1 post h⟩)
  · exact nm_r e0 (ya_lq hm5 ⟨4, h2 post h⟩)
/-- what the reference does behind its waking -/
def yw (post : Int32 → SY → Prop) (J : Int32 → Int32 → Int64 → Int32 → Int32 → (Nat → Int32) → (Nat → Int32) → (Nat → Int32) → (Nat → Int32) → (Nat → Int32) → (Nat → Int32) → (Nat → Int32) → (Nat → Int32) → (Nat → Int32) → (Nat → Int32) → (Nat → Int32) → (Nat → Int32) → (Nat → Int32) → (Nat → Int32) → (Nat → Int32) → (Nat → Int32) → (Nat → Int32) → (Nat → Int32) → (Nat → Int32) → (Nat → Int32) → Prop) (x3 : Int32) (v : SY) : Prop := match v with
  | (ql, ex, pr, go, kd, ns, wo, en, np, st, qp, sp, pn, pg, rg, ds, pc, fi, ow, po, pl, pw, qu, ou) => (ql = 0 → post x3 (ql, ex, pr, go, kd, ns, wo, en, np, st, qp, sp, pn, pg, rg, ds, pc, fi, ow, po, pl, pw, qu, ou)) ∧ (¬ ql = 0 → wpY_turn (fun u => match u with | (ql, ex, pr, go, kd, ns, wo, en, np, st, qp, sp, pn, pg, rg, ds, pc, fi, ow, po, pl, pw, qu, ou) => ∀ x, x = x3 + 1 → J x ql ex pr go kd ns wo en np st qp sp pn pg rg ds pc fi ow po pl pw qu ou) (ql, ex, pr, go, kd, ns, wo, en, np, st, qp, sp, pn, pg, rg, ds, pc, fi, ow, po, pl, pw, qu, ou))
theorem ux_wk : ∀ t i (ex : Int64) (kd ns np wo en st pp sp pc pg pn rg ds fi ow po pw pl qu ou qp : Nat → Int32) (go : Int32) (m c : Nat), i + t = 5 → ux_J B kd ns np en ds fi ow po st pp qp pc pn pl qu m c →
    ∃ u v, ux_A B u v ∧ (∀ post : SX → Prop, post u → wX_wakeWaiting_2 post (t + 1) (nI i) (nI m) (nI c) ex kd ns np wo en st pp sp pc pg pn rg ds fi ow po pw pl qu ou) ∧ (∀ post J x2 x3, yw post J x3 v → wY_run_31 post J x2 x3 (t + 1) (nI i) (nI m) ex (nI c) go kd (ux_LN kd ns) wo (ux_EN en) np st qp sp pn pg rg (ux_ED ds) pc fi ow po pl pw qu ou) := by
  intro t
  induction t with
  | zero =>
    intro i ex kd ns np wo en st pp sp pc pg pn rg ds fi ow po pw pl qu ou qp go m c hi hJ
    have ei : i = 5 := by omega
    subst ei
    exact ⟨_, _, ux_Ai (ex := ex) (wo := wo) (sp := sp) (pg := pg) (rg := rg) (pw := pw) (ou := ou) (go := go) hJ, fun post h => br_t (by decide) h, fun post J x2 x3 h => br_t (by decide) h⟩
  | succ t ih =>
    intro i ex kd ns np wo en st pp sp pc pg pn rg ds fi ow po pw pl qu ou qp go m c hi hJ
    have h5 : ¬ (5 : Int32) ≤ nI i := nI_ge (b := 5) (by omega) (by decide)
    have ci : (nI i).toNatClampNeg = i := ux_c (by omega)
    have iv : vp_in (nI i) 5 := vp_in_nI (by omega) (by decide)
    by_cases hs : st i = 2
    · obtain ⟨r, hr, hnw, hX, hY⟩ := ux_ww (p := i) (ql := nI m) (pr := nI c) (ex := ex) (ns := ns) (np := np) (wo := wo) (en := en) (sp := sp) (pg := pg) (rg := rg) (fi := fi) (ow := ow) (po := po) (pw := pw) (pl := pl) (qu := qu) (ou := ou) (go := go) hJ.2.1 hJ.2.2.2.2.1 (by omega) (Or.inr hs)
      rcases hr with hr | hr
      · subst hr
        obtain ⟨hm, hJ2⟩ := ux_J_wake (p := i) hJ (by omega) hs
        obtain ⟨u, v, hA, h1, h2⟩ := ih (i + 1) ex kd ns np wo en _ pp sp pc pg pn rg ds fi ow po pw pl _ ou qp go _ c (by omega) hJ2
        refine ⟨u, v, hA, fun post h => br_f h5 ⟨iv, ?_⟩, fun post J x2 x3 h => br_f h5 ⟨iv, ?_⟩⟩
        · rw [ci]
          exact br_t hs (hX _ (br_t rfl ⟨iv, nm_e (xa_jq (by omega) hm (nm_r (nI_1 i) (h1 post h)))⟩))
        · rw [ci]
          exact br_t hs (hY _ (br_t rfl (ya_jq (by omega) (by omega) (nm_r (nI_1 i) (h2 post J x2 x3 h)))))
      · subst hr
        obtain ⟨u, v, hA, h1, h2⟩ := ih (i + 1) ex kd ns np wo en st pp sp pc pg pn rg ds fi ow po pw pl qu ou qp go m c (by omega) hJ
        refine ⟨u, v, hA, fun post h => br_f h5 ⟨iv, ?_⟩, fun post J x2 x3 h => br_f h5 ⟨iv, ?_⟩⟩
        · rw [ci]
          exact br_t hs (hX _ (br_f (by decide) (nm_r (nI_1 i) (h1 post h))))
        · rw [ci]
          exact br_t hs (hY _ (br_f (by decide) (nm_r (nI_1 i) (h2 post J x2 x3 h))))
    · obtain ⟨u, v, hA, h1, h2⟩ := ih (i + 1) ex kd ns np wo en st pp sp pc pg pn rg ds fi ow po pw pl qu ou qp go m c (by omega) hJ
      refine ⟨u, v, hA, fun post h => br_f h5 ⟨iv, ?_⟩, fun post J x2 x3 h => br_f h5 ⟨iv, ?_⟩⟩
      · rw [ci]
        exact br_f hs (nm_r (nI_1 i) (h1 post h))
      · rw [ci]
        exact br_f hs (nm_r (nI_1 i) (h2 post J x2 x3 h))
theorem ux_run : ∀ t i B u v, i + t ≤ 80 → B + 3 * t < 1000000 → ux_A B u v → ∃ r u2 v2, ux_A (B + 3 * t) u2 v2 ∧ (∀ post : Int32 → SX → Prop, post r u2 → match u with | (ql, pr, ex, kd, ns, np, wo, en, st, pp, sp, pc, pg, pn, rg, ds, fi, ow, po, pw, pl, qu, ou) => wX_run_18 post (nI (i + t)) (t + 1) (nI i) (nI i) ql pr ex kd ns np wo en st pp sp pc pg pn rg ds fi ow po pw pl qu ou) ∧ (∀ post : Int32 → SY → Prop, post r v2 → match v with | (ql, ex, pr, go, kd, ns, wo, en, np, st, qp, sp, pn, pg, rg, ds, pc, fi, ow, po, pl, pw, qu, ou) => wY_run_23 post (nI (i + t)) (t + 1) (nI i) ql ex pr go kd ns wo en np st qp sp pn pg rg ds pc fi ow po pl pw qu ou) := by
  intro t
  induction t with
  | zero =>
    intro i B u v hi hB hA
    obtain ⟨ex, kd, ns, np, wo, en, st, pp, sp, pc, pg, pn, rg, ds, fi, ow, po, pw, pl, qu, ou, qp, go, m, c, rfl, rfl, hJ⟩ := hA
    exact ⟨nI i, _, _, ux_Ai (ex := ex) (wo := wo) (sp := sp) (pg := pg) (rg := rg) (pw := pw) (ou := ou) (go := go) hJ, fun post h => br_t (nI_le (by omega) (by omega)) h, fun post h => br_t (nI_le (by omega) (by omega)) h⟩
  | succ t ih =>
    intro i B u v hi hB hA
    obtain ⟨ex, kd, ns, np, wo, en, st, pp, sp, pc, pg, pn, rg, ds, fi, ow, po, pw, pl, qu, ou, qp, go, m, c, rfl, rfl, hJ⟩ := hA
    have hn : ¬ nI (i + (t + 1)) ≤ nI i := nI_ge (by omega) (by omega)
    obtain ⟨u1, v1, hA1, w1, w2⟩ := ux_wk (B := B) 5 0 ex kd ns np wo en st pp sp pc pg pn rg ds fi ow po pw pl qu ou qp go m c (by omega) hJ
    obtain ⟨ex, kd, ns, np, wo, en, st, pp, sp, pc, pg, pn, rg, ds, fi, ow, po, pw, pl, qu, ou, qp, go, m, c, rfl, rfl, hJ1⟩ := hA1
    have hm5 := hJ1.2.2.2.2.2.1.1
    by_cases hm : m = 0
    · refine ⟨nI i, _, _, ux_A_mono (ux_Ai (ex := ex) (wo := wo) (sp := sp) (pg := pg) (rg := rg) (pw := pw) (ou := ou) (go := go) hJ1) (by omega), fun post h => br_f hn ⟨6, w1 _ (br_t ?_ h)⟩, fun post h => br_f hn ⟨6, w2 _ _ _ _ (br_t ?_ h)⟩⟩
      · rw [hm]; rfl
      · rw [hm]; rfl
    · obtain ⟨u2, v2, hA2, t1, t2⟩ := ux_turn (ex := ex) (wo := wo) (sp := sp) (pg := pg) (rg := rg) (pw := pw) (ou := ou) (go := go) hJ1 (by omega) (by omega)
      obtain ⟨r, u3, v3, hA3, k1, k2⟩ := ih (i + 1) (B + 3) u2 v2 (by omega) (by omega) hA2
      rw [show i + 1 + t = i + (t + 1) by omega] at k1 k2
      refine ⟨r, u3, v3, ux_A_mono hA3 (by omega), fun post h => br_f hn ⟨6, w1 _ (br_f (ux_nz (by omega) (by omega)) (t1 _ ?_))⟩, fun post h => br_f hn ⟨6, w2 _ _ _ _ (br_f (ux_nz (by omega) (by omega)) (t2 _ ?_))⟩⟩
      · obtain ⟨ql, pr, ex, kd, ns, np, wo, en, st, pp, sp, pc, pg, pn, rg, ds, fi, ow, po, pw, pl, qu, ou⟩ := u2
        exact nm_r (nI_1 i) (nm_r (nI_1 i) (k1 post h))
      · obtain ⟨ql, ex, pr, go, kd, ns, wo, en, np, st, qp, sp, pn, pg, rg, ds, pc, fi, ow, po, pl, pw, qu, ou⟩ := v2
        exact nm_r (nI_1 i) (k2 post h)
end UX27
end
section
section UX28
def i_Rel (k : Nat) (u : SX) (v : SY) : Prop := ux_A (60 * k) u v
theorem i_up {k : Nat} {u : SX} {v : SY} (h : i_Rel k u v) : i_Rel (k + 4) u v := ux_A_mono h (by omega)
theorem ux_rgO {x : Int32} {n : Nat} (h : x < 0 ∨ (¬ x < 0 ∧ nI n ≤ x)) : x < 0 ∨ (¬ x < 0 ∧ ¬ x < nI n) := by
  rcases h with h | ⟨h, h2⟩
  · exact Or.inl h
  · exact Or.inr ⟨h, ux_hi h2⟩
theorem i_vc_state {k : Nat} {u : SX} {v : SY} (I : i_Rel k u v) (hk : k + 4 ≤ 2048) (v1 : Int32) : wpX_state (fun r => wpY_state (fun r' => r' = r ∧ i_Rel (k + 4) u v) v v1) u v1 := by
  have I4 := i_up I
  obtain ⟨ex, kd, ns, np, wo, en, st, pp, sp, pc, pg, pn, rg, ds, fi, ow, po, pw, pl, qu, ou, qp, go, m, c, rfl, rfl, hJ⟩ := I
  rcases ux_rg v1 5 (by decide) with ⟨p, hp, rfl⟩ | hr
  · have iv : vp_in (nI p) 5 := vp_in_nI hp (by decide)
    refine br_f (nI_pos (by omega)) (br_t (nI_lt (b := 5) hp (by decide)) ⟨iv, ?_⟩)
    unfold wpY_state
    exact ya_inN (b := 0) (e := 4) (by omega) (by omega) (by omega) (br_f (by decide) ⟨iv, rfl, I4⟩)
  · have hY : wpY_state (fun r' => r' = -1000000 ∧ i_Rel (k + 4) (nI m, nI c, ex, kd, ns, np, wo, en, st, pp, sp, pc, pg, pn, rg, ds, fi, ow, po, pw, pl, qu, ou) ((nI m), ex, (nI c), go, kd, (ux_LN kd ns), wo, (ux_EN en), np, st, qp, sp, pn, pg, rg, (ux_ED ds), pc, fi, ow, po, pl, pw, qu, ou)) ((nI m), ex, (nI c), go, kd, (ux_LN kd ns), wo, (ux_EN en), np, st, qp, sp, pn, pg, rg, (ux_ED ds), pc, fi, ow, po, pl, pw, qu, ou) v1 := by
      unfold wpY_state
      exact ya_inR 4 (by omega) hr (br_t rfl ⟨rfl, I4⟩)
    rcases hr with h1 | ⟨h1, h2⟩
    · exact br_t h1 hY
    · exact br_f h1 (br_f (ux_hi h2) hY)
theorem i_vc_spot {k : Nat} {u : SX} {v : SY} (I : i_Rel k u v) (hk : k + 4 ≤ 2048) (v1 : Int32) : wpX_spot (fun r => wpY_spot (fun r' => r' = r ∧ i_Rel (k + 4) u v) v v1) u v1 := by
  have I4 := i_up I
  obtain ⟨ex, kd, ns, np, wo, en, st, pp, sp, pc, pg, pn, rg, ds, fi, ow, po, pw, pl, qu, ou, qp, go, m, c, rfl, rfl, hJ⟩ := I
  rcases ux_rg v1 5 (by decide) with ⟨p, hp, rfl⟩ | hr
  · have iv : vp_in (nI p) 5 := vp_in_nI hp (by decide)
    have cl : (nI p).toNatClampNeg = p := ux_c (by omega)
    refine br_f (nI_pos (by omega)) (br_f (nI_ge (b := 5) hp (by decide)) ⟨iv, ?_⟩)
    rw [cl]
    by_cases h0 : st p = 0
    · refine br_t h0 ?_
      unfold wpY_spot
      exact ya_inN (b := 0) (e := 4) (by omega) (by omega) (by omega) (br_f (by decide) ⟨iv, br_t (by rw [cl]; exact h0) ⟨rfl, I4⟩⟩)
    · refine br_f h0 ⟨iv, ?_⟩
      unfold wpY_spot
      exact ya_inN (b := 0) (e := 4) (by omega) (by omega) (by omega) (br_f (by decide) ⟨iv, br_f (by rw [cl]; exact h0) ⟨iv, by rw [cl], I4⟩⟩)
  · have hY : wpY_spot (fun r' => r' = -1000000 ∧ i_Rel (k + 4) (nI m, nI c, ex, kd, ns, np, wo, en, st, pp, sp, pc, pg, pn, rg, ds, fi, ow, po, pw, pl, qu, ou) ((nI m), ex, (nI c), go, kd, (ux_LN kd ns), wo, (ux_EN en), np, st, qp, sp, pn, pg, rg, (ux_ED ds), pc, fi, ow, po, pl, pw, qu, ou)) ((nI m), ex, (nI c), go, kd, (ux_LN kd ns), wo, (ux_EN en), np, st, qp, sp, pn, pg, rg, (ux_ED ds), pc, fi, ow, po, pl, pw, qu, ou) v1 := by
      unfold wpY_spot
      exact ya_inR 4 (by omega) hr (br_t rfl ⟨rfl, I4⟩)
    rcases hr with h1 | ⟨h1, h2⟩
    · exact br_t h1 hY
    · exact br_f h1 (br_t h2 hY)
theorem i_vc_register {k : Nat} {u : SX} {v : SY} (I : i_Rel k u v) (hk : k + 4 ≤ 2048) (v1 : Int32) (v2 : Int32) : wpX_register (fun r => wpY_register (fun r' => r' = r ∧ i_Rel (k + 4) u v) v v1 v2) u v1 v2 := by
  have I4 := i_up I
  obtain ⟨ex, kd, ns, np, wo, en, st, pp, sp, pc, pg, pn, rg, ds, fi, ow, po, pw, pl, qu, ou, qp, go, m, c, rfl, rfl, hJ⟩ := I
  rcases ux_al hJ.2.2.2.2.1 v1 with ⟨p, hp, rfl, hs⟩ | hd
  · unfold wpX_register
    refine xa_al1 hp hs (br_f (by decide) ?_)
    rcases ux_rg v2 4 (by decide) with ⟨a, ha, rfl⟩ | hr
    · have x4 : nI p * 4 + nI a = nI (p * 4 + a) := by rw [ux_mul_l, nI_add]
      have y4 : 4 * nI p + nI a = nI (p * 4 + a) := by rw [ux_l_mul, nI_add, Nat.mul_comm]
      have va : vp_in (nI (p * 4 + a)) 20 := vp_in_nI (by omega) (by decide)
      refine br_f (nI_pos (by omega)) (br_t (nI_lt (b := 4) ha (by decide)) ?_)
      rw [x4]
      refine ⟨va, ?_⟩
      unfold wpY_register
      refine ya_lv1 hp hs (br_f (by decide) (ya_inN (b := 0) (e := 3) (by omega) (by omega) (by omega) (br_f (by decide) ?_)))
      rw [y4]
      exact ⟨va, rfl, I4⟩
    · have hY : wpY_register (fun r' => r' = 0 ∧ i_Rel (k + 4) (nI m, nI c, ex, kd, ns, np, wo, en, st, pp, sp, pc, pg, pn, rg, ds, fi, ow, po, pw, pl, qu, ou) ((nI m), ex, (nI c), go, kd, (ux_LN kd ns), wo, (ux_EN en), np, st, qp, sp, pn, pg, rg, (ux_ED ds), pc, fi, ow, po, pl, pw, qu, ou)) ((nI m), ex, (nI c), go, kd, (ux_LN kd ns), wo, (ux_EN en), np, st, qp, sp, pn, pg, rg, (ux_ED ds), pc, fi, ow, po, pl, pw, qu, ou) (nI p) v2 := by
        unfold wpY_register
        exact ya_lv1 hp hs (br_f (by decide) (ya_inR 3 (by omega) hr (br_t rfl ⟨rfl, I4⟩)))
      rcases hr with h1 | ⟨h1, h2⟩
      · exact br_t h1 hY
      · exact br_f h1 (br_f (ux_hi h2) hY)
  · unfold wpX_register
    rcases hd with hr | ⟨p, hp, rfl, h1, h2⟩
    · refine xa_alO hr (br_t rfl ?_)
      unfold wpY_register
      exact ya_lvO hr (br_t rfl ⟨rfl, I4⟩)
    · refine xa_al0 hp h1 h2 (br_t rfl ?_)
      unfold wpY_register
      exact ya_lv0 hp h1 h2 (br_t rfl ⟨rfl, I4⟩)
theorem i_vc_descriptor {k : Nat} {u : SX} {v : SY} (I : i_Rel k u v) (hk : k + 4 ≤ 2048) (v1 : Int32) (v2 : Int32) : wpX_descriptor (fun r => wpY_descriptor (fun r' => r' = r ∧ i_Rel (k + 4) u v) v v1 v2) u v1 v2 := by
  have I4 := i_up I
  obtain ⟨ex, kd, ns, np, wo, en, st, pp, sp, pc, pg, pn, rg, ds, fi, ow, po, pw, pl, qu, ou, qp, go, m, c, rfl, rfl, hJ⟩ := I
  have hD := hJ.2.1
  rcases ux_al hJ.2.2.2.2.1 v1 with ⟨p, hp, rfl, hs⟩ | hd
  · unfold wpX_descriptor
    refine xa_al1 hp hs (br_f (by decide) ?_)
    rcases ux_rg v2 4 (by decide) with ⟨a, ha, rfl⟩ | hr
    · have y4 : 4 * nI p + nI a = nI (p * 4 + a) := by rw [ux_l_mul, nI_add, Nat.mul_comm]
      have va : vp_in (nI (p * 4 + a)) 20 := vp_in_nI (by omega) (by decide)
      have ca : (nI (p * 4 + a)).toNatClampNeg = p * 4 + a := ux_c (by omega)
      have hY : ∀ x : Int32, (∀ x3, x3 = ux_cv (ds (p * 4 + a)) → ((x3 ≤ 200 → ((x3 ≤ 100 → ((x3 = 0 → (0 : Int32) = x ∧ i_Rel (k + 4) (nI m, nI c, ex, kd, ns, np, wo, en, st, pp, sp, pc, pg, pn, rg, ds, fi, ow, po, pw, pl, qu, ou) ((nI m), ex, (nI c), go, kd, (ux_LN kd ns), wo, (ux_EN en), np, st, qp, sp, pn, pg, rg, (ux_ED ds), pc, fi, ow, po, pl, pw, qu, ou)) ∧ (¬ x3 = 0 → (vp_in (x3 - 1) 8 ∧ ((1 + (16 * po (x3 - 1).toNatClampNeg)) + (512 * (x3 - 1)) = x ∧ i_Rel (k + 4) (nI m, nI c, ex, kd, ns, np, wo, en, st, pp, sp, pc, pg, pn, rg, ds, fi, ow, po, pw, pl, qu, ou) ((nI m), ex, (nI c), go, kd, (ux_LN kd ns), wo, (ux_EN en), np, st, qp, sp, pn, pg, rg, (ux_ED ds), pc, fi, ow, po, pl, pw, qu, ou)))))) ∧ (¬ x3 ≤ 100 → ((4096 + x3) - 101 = x ∧ i_Rel (k + 4) (nI m, nI c, ex, kd, ns, np, wo, en, st, pp, sp, pc, pg, pn, rg, ds, fi, ow, po, pw, pl, qu, ou) ((nI m), ex, (nI c), go, kd, (ux_LN kd ns), wo, (ux_EN en), np, st, qp, sp, pn, pg, rg, (ux_ED ds), pc, fi, ow, po, pl, pw, qu, ou))))) ∧ (¬ x3 ≤ 200 → ((8192 + x3) - 201 = x ∧ i_Rel (k + 4) (nI m, nI c, ex, kd, ns, np, wo, en, st, pp, sp, pc, pg, pn, rg, ds, fi, ow, po, pw, pl, qu, ou) ((nI m), ex, (nI c), go, kd, (ux_LN kd ns), wo, (ux_EN en), np, st, qp, sp, pn, pg, rg, (ux_ED ds), pc, fi, ow, po, pl, pw, qu, ou))))) →
          wpY_descriptor (fun r' => r' = x ∧ i_Rel (k + 4) (nI m, nI c, ex, kd, ns, np, wo, en, st, pp, sp, pc, pg, pn, rg, ds, fi, ow, po, pw, pl, qu, ou) ((nI m), ex, (nI c), go, kd, (ux_LN kd ns), wo, (ux_EN en), np, st, qp, sp, pn, pg, rg, (ux_ED ds), pc, fi, ow, po, pl, pw, qu, ou)) ((nI m), ex, (nI c), go, kd, (ux_LN kd ns), wo, (ux_EN en), np, st, qp, sp, pn, pg, rg, (ux_ED ds), pc, fi, ow, po, pl, pw, qu, ou) (nI p) (nI a) := by
        intro x hx
        unfold wpY_descriptor
        refine ya_lv1 hp hs (br_f (by decide) (ya_inN (b := 0) (e := 3) (by omega) (by omega) (by omega) (br_f (by decide) ?_)))
        rw [y4, ca]
        exact ⟨va, hx⟩
      refine xa_ha hp (Or.inl ⟨a, ha, rfl, rfl⟩) ?_
      rcases hD (p * 4 + a) (by omega) with h | ⟨o, ho, h⟩ | ⟨q, hq, h⟩ | ⟨q, hq, h⟩
      · rw [h]
        refine xa_io0 (a := 0) (by omega) (by omega) (br_t rfl (hY _ ?_))
        rw [h, ux_cv0]
        exact nm_e (br_t (by decide) (br_t (by decide) (br_t rfl ⟨rfl, I4⟩)))
      · rw [h]
        refine xa_io1 (by omega) (by omega) (br_f (by decide) (nm_r (ux_so o) ⟨vp_in_nI ho (by decide), hY _ ?_⟩))
        rw [h, ux_cvo o ho]
        refine nm_e (br_t (nI_le (b := 200) (by omega) (by decide)) (br_t (nI_le (b := 100) (by omega) (by decide)) (br_f (ux_nz (by omega) (by omega)) ?_)))
        rw [ux_so o]
        exact ⟨vp_in_nI ho (by decide), rfl, I4⟩
      · rw [h]
        refine xa_io0 (by omega) (by omega) (br_t rfl (hY _ ?_))
        rw [h, ux_cvr q hq]
        refine nm_e (br_t (nI_le (b := 200) (by omega) (by decide)) (br_f (nI_ge (a := 100) (by omega) (by omega)) ⟨?_, I4⟩))
        have e : ∀ q, q < 2 → (4096 + nI (101 + q)) - 101 = nI (4096 + q) := by decide +kernel
        exact e q hq
      · rw [h]
        refine xa_io0 (by omega) (by omega) (br_t rfl (hY _ ?_))
        rw [h, ux_cvw q hq]
        refine nm_e (br_f (nI_ge (a := 200) (by omega) (by omega)) ⟨?_, I4⟩)
        have e : ∀ q, q < 2 → (8192 + nI (201 + q)) - 201 = nI (8192 + q) := by decide +kernel
        exact e q hq
    · refine xa_ha hp (Or.inr ⟨hr, rfl⟩) (xa_io0 (a := 0) (by omega) (by omega) (br_t rfl ?_))
      unfold wpY_descriptor
      exact ya_lv1 hp hs (br_f (by decide) (ya_inR 3 (by omega) hr (br_t rfl ⟨rfl, I4⟩)))
  · unfold wpX_descriptor
    rcases hd with hr | ⟨p, hp, rfl, h1, h2⟩
    · refine xa_alO hr (br_t rfl ?_)
      unfold wpY_descriptor
      exact ya_lvO hr (br_t rfl ⟨rfl, I4⟩)
    · refine xa_al0 hp h1 h2 (br_t rfl ?_)
      unfold wpY_descriptor
      exact ya_lv0 hp h1 h2 (br_t rfl ⟨rfl, I4⟩)
end UX28
section UX28B
variable {ql pr : Int32} {ex : Int64} {kd ns np wo en st pp sp pc pg pn rg ds fi ow po pw pl qu ou : Nat → Int32}
variable {post : Int32 → Prop} {n : Nat} {r : Int32}
theorem xa_no1 (hn : n < 10) (h : post 1) : wpX_isNode post (ql, pr, ex, kd, ns, np, wo, en, st, pp, sp, pc, pg, pn, rg, ds, fi, ow, po, pw, pl, qu, ou) (nI n) := br_f (nI_pos (by omega)) (br_f (nI_ge (b := 10) hn (by decide)) h)
theorem xa_no0 (hr : r < 0 ∨ (¬ r < 0 ∧ nI 10 ≤ r)) (h : post 0) : wpX_isNode post (ql, pr, ex, kd, ns, np, wo, en, st, pp, sp, pc, pg, pn, rg, ds, fi, ow, po, pw, pl, qu, ou) r := by
  rcases hr with h1 | ⟨h1, h2⟩
  · exact br_t h1 h
  · exact br_f h1 (br_t h2 h)
end UX28B
section UX28C
theorem i_vc_kind {k : Nat} {u : SX} {v : SY} (I : i_Rel k u v) (hk : k + 4 ≤ 2048) (v1 : Int32) : wpX_kind (fun r => wpY_kind (fun r' => r' = r ∧ i_Rel (k + 4) u v) v v1) u v1 := by
  have I4 := i_up I
  obtain ⟨ex, kd, ns, np, wo, en, st, pp, sp, pc, pg, pn, rg, ds, fi, ow, po, pw, pl, qu, ou, qp, go, m, c, rfl, rfl, hJ⟩ := I
  unfold wpX_kind
  rcases ux_rg v1 10 (by decide) with ⟨n, hn, rfl⟩ | hr
  · have vn : vp_in (nI n) 10 := vp_in_nI hn (by decide)
    refine xa_no1 hn (br_f (by decide) ⟨vn, ?_⟩)
    unfold wpY_kind
    exact ya_inN (b := 0) (e := 9) (by omega) (by omega) (by omega) (br_f (by decide) ⟨vn, rfl, I4⟩)
  · refine xa_no0 hr (br_t rfl ?_)
    unfold wpY_kind
    exact ya_inR 9 (by omega) hr (br_t rfl ⟨rfl, I4⟩)
theorem i_vc_size {k : Nat} {u : SX} {v : SY} (I : i_Rel k u v) (hk : k + 4 ≤ 2048) (v1 : Int32) : wpX_size (fun r => wpY_size (fun r' => r' = r ∧ i_Rel (k + 4) u v) v v1) u v1 := by
  have I4 := i_up I
  obtain ⟨ex, kd, ns, np, wo, en, st, pp, sp, pc, pg, pn, rg, ds, fi, ow, po, pw, pl, qu, ou, qp, go, m, c, rfl, rfl, hJ⟩ := I
  have hF := hJ.1
  unfold wpX_size
  rcases ux_rg v1 10 (by decide) with ⟨n, hn, rfl⟩ | hr
  · have vn : vp_in (nI n) 10 := vp_in_nI hn (by decide)
    have cn : (nI n).toNatClampNeg = n := ux_c (by omega)
    refine xa_no1 hn (br_f (by decide) ⟨vn, ?_⟩)
    rw [cn]
    rcases hF.1.2 n hn with h | h | h
    · refine br_t h ?_
      unfold wpY_size
      exact ya_inN (b := 0) (e := 9) (by omega) (by omega) (by omega) (br_f (by decide) ⟨vn, br_t (by rw [cn, h]; decide) ⟨rfl, I4⟩⟩)
    · refine br_f (by rw [h]; decide) ⟨vn, ?_⟩
      unfold wpY_size
      refine ya_inN (b := 0) (e := 9) (by omega) (by omega) (by omega) (br_f (by decide) ⟨vn, br_f (by rw [cn, h]; decide) (br_t (nI_pos' (by omega)) ⟨vn, br_t (by rw [cn]; exact h) ⟨vn, ?_, I4⟩⟩)⟩)
      rw [cn]; exact ux_LN_f (by rw [h]; exact ux_n12)
    · refine br_f (by rw [h]; decide) ⟨vn, ?_⟩
      unfold wpY_size
      refine ya_inN (b := 0) (e := 9) (by omega) (by omega) (by omega) (br_f (by decide) ⟨vn, br_f (by rw [cn, h]; decide) (br_t (nI_pos' (by omega)) ⟨vn, br_f (by rw [cn, h]; decide) (ya_eo hF.2.1 hn ⟨?_, I4⟩)⟩)⟩)
      exact ((hF.2.2.2.2 n hn).1 h).1.symm
  · refine xa_no0 hr (br_t rfl ?_)
    unfold wpY_size
    exact ya_inR 9 (by omega) hr (br_t rfl ⟨rfl, I4⟩)
theorem i_vc_word {k : Nat} {u : SX} {v : SY} (I : i_Rel k u v) (hk : k + 4 ≤ 2048) (v1 : Int32) (v2 : Int32) : wpX_word (fun r => wpY_word (fun r' => r' = r ∧ i_Rel (k + 4) u v) v v1 v2) u v1 v2 := by
  have I4 := i_up I
  obtain ⟨ex, kd, ns, np, wo, en, st, pp, sp, pc, pg, pn, rg, ds, fi, ow, po, pw, pl, qu, ou, qp, go, m, c, rfl, rfl, hJ⟩ := I
  have hF := hJ.1
  unfold wpX_word
  rcases ux_rg v1 10 (by decide) with ⟨n, hn, rfl⟩ | hr
  · have vn : vp_in (nI n) 10 := vp_in_nI hn (by decide)
    have cn : (nI n).toNatClampNeg = n := ux_c (by omega)
    refine xa_no1 hn (br_f (by decide) ⟨vn, ?_⟩)
    rw [cn]
    by_cases h : kd n = 1
    · obtain ⟨g, hg, eg⟩ := (hF.2.2.2.2 n hn).2 h
      have eL : ux_LN kd ns n = nI g := by rw [ux_LN_f (by rw [h]; exact ux_n12), eg]
      refine br_t h ?_
      by_cases h0 : v2 < 0
      · refine br_t h0 ?_
        unfold wpY_word
        exact ya_inN (b := 0) (e := 9) (by omega) (by omega) (by omega) (br_f (by decide) ⟨vn, br_t (by rw [cn]; exact h) (br_t h0 ⟨rfl, I4⟩)⟩)
      · refine br_f h0 ⟨vn, ?_⟩
        rw [eg]
        by_cases hlt : v2 < nI g
        · obtain ⟨q, hq, rfl⟩ := nI_of h0
          have hqg : q < g := (nI_ltI hq (by omega)).mp hlt
          have x20 : nI n * 20 + nI q = nI (n * 20 + q) := by rw [ux_mul_l, nI_add]
          have y20 : 20 * nI n + nI q = nI (n * 20 + q) := by rw [ux_l_mul, nI_add, Nat.mul_comm]
          have vq : vp_in (nI (n * 20 + q)) 200 := vp_in_nI (by omega) (by decide)
          rw [x20]
          refine br_t hlt ⟨vq, ?_⟩
          unfold wpY_word
          refine ya_inN (b := 0) (e := 9) (by omega) (by omega) (by omega) (br_f (by decide) ⟨vn, br_t (by rw [cn]; exact h) (br_f h0 ⟨vn, ?_⟩)⟩)
          rw [cn, eL, y20]
          exact br_f (Int32.not_le.mpr hlt) ⟨vq, rfl, I4⟩
        · refine br_f hlt ?_
          unfold wpY_word
          refine ya_inN (b := 0) (e := 9) (by omega) (by omega) (by omega) (br_f (by decide) ⟨vn, br_t (by rw [cn]; exact h) (br_f h0 ⟨vn, ?_⟩)⟩)
          rw [cn, eL]
          exact br_t (Int32.not_lt.mp hlt) ⟨rfl, I4⟩
    · refine br_f h ?_
      unfold wpY_word
      exact ya_inN (b := 0) (e := 9) (by omega) (by omega) (by omega) (br_f (by decide) ⟨vn, br_f (by rw [cn]; exact h) ⟨rfl, I4⟩⟩)
  · refine xa_no0 hr (br_t rfl ?_)
    unfold wpY_word
    exact ya_inR 9 (by omega) hr (br_t rfl ⟨rfl, I4⟩)
theorem i_vc_entry {k : Nat} {u : SX} {v : SY} (I : i_Rel k u v) (hk : k + 4 ≤ 2048) (v1 : Int32) (v2 : Int32) : wpX_entry (fun r => wpY_entry (fun r' => r' = r ∧ i_Rel (k + 4) u v) v v1 v2) u v1 v2 := by
  have I4 := i_up I
  obtain ⟨ex, kd, ns, np, wo, en, st, pp, sp, pc, pg, pn, rg, ds, fi, ow, po, pw, pl, qu, ou, qp, go, m, c, rfl, rfl, hJ⟩ := I
  have hF := hJ.1
  unfold wpX_entry
  rcases ux_rg v1 10 (by decide) with ⟨n, hn, rfl⟩ | hr
  · have vn : vp_in (nI n) 10 := vp_in_nI hn (by decide)
    have cn : (nI n).toNatClampNeg = n := ux_c (by omega)
    refine xa_no1 hn (br_f (by decide) ⟨vn, ?_⟩)
    rw [cn]
    by_cases h : kd n = 2
    · refine br_t h ?_
      rcases ux_rg v2 16 (by decide) with ⟨a, ha, rfl⟩ | hr
      · refine br_f (nI_pos (by omega)) (br_t (nI_le (b := 15) (by omega) (by decide)) ?_)
        by_cases h15 : a = 15
        · subst h15
          refine br_t rfl ⟨vn, ?_⟩
          unfold wpY_entry
          refine ya_inN (b := 0) (e := 9) (by omega) (by omega) (by omega) (br_f (by decide) ⟨vn, br_t (by rw [cn]; exact h) (ya_inN (b := 0) (e := 15) (by omega) (by omega) (by omega) (br_f (by decide) (br_t rfl ⟨vn, ?_, I4⟩)))⟩)
          rw [cn]
        · have hne : ¬ nI a = 15 := ux_ne (b := 15) h15 (by omega) (by omega)
          have y15 : 15 * nI n + nI a = nI (n * 15 + a) := by rw [ux_l_mul, nI_add, Nat.mul_comm]
          have va : vp_in (nI (n * 15 + a)) 150 := vp_in_nI (by omega) (by decide)
          refine br_f hne (xa_nnA hn (by omega) ?_)
          by_cases h0 : en (n * 15 + a) = 0
          · refine br_t h0 ?_
            unfold wpY_entry
            refine ya_inN (b := 0) (e := 9) (by omega) (by omega) (by omega) (br_f (by decide) ⟨vn, br_t (by rw [cn]; exact h) (ya_inN (b := 0) (e := 15) (by omega) (by omega) (by omega) (br_f (by decide) (br_f hne ?_)))⟩)
            rw [y15, ux_c (n := n * 15 + a) (by omega), ux_EN_0 (by omega) h0]
            exact ⟨va, rfl, I4⟩
          · refine br_f h0 ?_
            unfold wpY_entry
            refine ya_inN (b := 0) (e := 9) (by omega) (by omega) (by omega) (br_f (by decide) ⟨vn, br_t (by rw [cn]; exact h) (ya_inN (b := 0) (e := 15) (by omega) (by omega) (by omega) (br_f (by decide) (br_f hne ?_)))⟩)
            rw [y15, ux_c (n := n * 15 + a) (by omega), ux_EN_1 (by omega) h0]
            exact ⟨va, rfl, I4⟩
      · have hY : wpY_entry (fun r' => r' = -1000000 ∧ i_Rel (k + 4) (nI m, nI c, ex, kd, ns, np, wo, en, st, pp, sp, pc, pg, pn, rg, ds, fi, ow, po, pw, pl, qu, ou) ((nI m), ex, (nI c), go, kd, (ux_LN kd ns), wo, (ux_EN en), np, st, qp, sp, pn, pg, rg, (ux_ED ds), pc, fi, ow, po, pl, pw, qu, ou)) ((nI m), ex, (nI c), go, kd, (ux_LN kd ns), wo, (ux_EN en), np, st, qp, sp, pn, pg, rg, (ux_ED ds), pc, fi, ow, po, pl, pw, qu, ou) (nI n) v2 := by
          unfold wpY_entry
          exact ya_inN (b := 0) (e := 9) (by omega) (by omega) (by omega) (br_f (by decide) ⟨vn, br_t (by rw [cn]; exact h) (ya_inR 15 (by omega) hr (br_t rfl ⟨rfl, I4⟩))⟩)
        rcases hr with h1 | ⟨h1, h2⟩
        · exact br_t h1 hY
        · exact br_f h1 (br_f (ux_hi1 (n := 15) (by decide) h2) hY)
    · refine br_f h ?_
      unfold wpY_entry
      exact ya_inN (b := 0) (e := 9) (by omega) (by omega) (by omega) (br_f (by decide) ⟨vn, br_f (by rw [cn]; exact h) ⟨rfl, I4⟩⟩)
  · refine xa_no0 hr (br_t rfl ?_)
    unfold wpY_entry
    exact ya_inR 9 (by omega) hr (br_t rfl ⟨rfl, I4⟩)
theorem i_vc_pipe {k : Nat} {u : SX} {v : SY} (I : i_Rel k u v) (hk : k + 4 ≤ 2048) (v1 : Int32) : wpX_pipe (fun r => wpY_pipe (fun r' => r' = r ∧ i_Rel (k + 4) u v) v v1) u v1 := by
  have I4 := i_up I
  obtain ⟨ex, kd, ns, np, wo, en, st, pp, sp, pc, pg, pn, rg, ds, fi, ow, po, pw, pl, qu, ou, qp, go, m, c, rfl, rfl, hJ⟩ := I
  have hD := hJ.2.1
  unfold wpX_pipe
  dsimp only
  rcases ux_rg v1 2 (by decide) with ⟨q, hq, rfl⟩ | hr
  · have vq : vp_in (nI q) 2 := vp_in_nI hq (by decide)
    have ea : 4096 + nI q = nI (4096 + q) := nI_add 4096 q
    have eb : 8192 + nI q = nI (8192 + q) := nI_add 8192 q
    have ec : 101 + nI q = nI (101 + q) := nI_add 101 q
    have ed : 201 + nI q = nI (201 + q) := nI_add 201 q
    refine br_f (nI_pos (by omega)) (br_t (nI_lt (b := 2) hq (by decide)) ?_)
    rw [ea, eb]
    have hY : ∀ x : Int32, ((ux_hd ds (nI (4096 + q)) ∨ ux_hd ds (nI (8192 + q))) → pl (nI q).toNatClampNeg = x) → (¬ (ux_hd ds (nI (4096 + q)) ∨ ux_hd ds (nI (8192 + q))) → -1 = x) → wpY_pipe (fun r' => r' = x ∧ i_Rel (k + 4) (nI m, nI c, ex, kd, ns, np, wo, en, st, pp, sp, pc, pg, pn, rg, ds, fi, ow, po, pw, pl, qu, ou) ((nI m), ex, (nI c), go, kd, (ux_LN kd ns), wo, (ux_EN en), np, st, qp, sp, pn, pg, rg, (ux_ED ds), pc, fi, ow, po, pl, pw, qu, ou)) ((nI m), ex, (nI c), go, kd, (ux_LN kd ns), wo, (ux_EN en), np, st, qp, sp, pn, pg, rg, (ux_ED ds), pc, fi, ow, po, pl, pw, qu, ou) (nI q) := by
      intro x h1 h2
      unfold wpY_pipe
      refine ya_inN (b := 0) (e := 1) (by omega) (by omega) (by omega) (br_f (by decide) ?_)
      rw [ec, ed]
      by_cases ha : ux_hd ds (nI (4096 + q))
      · exact ya_h1 ((ux_hd_r hD hq).mpr ha) (br_f (by decide) ⟨vq, h1 (Or.inl ha), I4⟩)
      · refine ya_h0 (fun z => ha ((ux_hd_r hD hq).mp z)) (br_t rfl ?_)
        by_cases hb : ux_hd ds (nI (8192 + q))
        · exact ya_h1 ((ux_hd_w hD hq).mpr hb) (br_f (by decide) ⟨vq, h1 (Or.inr hb), I4⟩)
        · exact ya_h0 (fun z => hb ((ux_hd_w hD hq).mp z)) (br_t rfl ⟨h2 (fun z => z.elim ha hb), I4⟩)
    by_cases ha : ux_hd ds (nI (4096 + q))
    · exact xa_ih1 ha (br_f (by decide) ⟨vq, hY _ (fun _ => rfl) (fun z => absurd (Or.inl ha) z)⟩)
    · refine xa_ih0 ha (br_t rfl ?_)
      by_cases hb : ux_hd ds (nI (8192 + q))
      · exact xa_ih1 hb (br_f (by decide) ⟨vq, hY _ (fun _ => rfl) (fun z => absurd (Or.inr hb) z)⟩)
      · exact xa_ih0 hb (br_t rfl (hY _ (fun z => absurd z (fun y => y.elim ha hb)) (fun _ => rfl)))
  · have hY : wpY_pipe (fun r' => r' = -1000000 ∧ i_Rel (k + 4) (nI m, nI c, ex, kd, ns, np, wo, en, st, pp, sp, pc, pg, pn, rg, ds, fi, ow, po, pw, pl, qu, ou) ((nI m), ex, (nI c), go, kd, (ux_LN kd ns), wo, (ux_EN en), np, st, qp, sp, pn, pg, rg, (ux_ED ds), pc, fi, ow, po, pl, pw, qu, ou)) ((nI m), ex, (nI c), go, kd, (ux_LN kd ns), wo, (ux_EN en), np, st, qp, sp, pn, pg, rg, (ux_ED ds), pc, fi, ow, po, pl, pw, qu, ou) v1 := by
      unfold wpY_pipe
      exact ya_inR 1 (by omega) hr (br_t rfl ⟨rfl, I4⟩)
    rcases hr with h1 | ⟨h1, h2⟩
    · exact br_t h1 hY
    · exact br_f h1 (br_f (ux_hi h2) hY)
theorem i_vc_executed {k : Nat} {u : SX} {v : SY} (I : i_Rel k u v) (hk : k + 4 ≤ 2048) : wpX_executed (fun r => wpY_executed (fun r' => r' = r ∧ i_Rel (k + 4) u v) v) u := by
  have I4 := i_up I
  obtain ⟨ex, kd, ns, np, wo, en, st, pp, sp, pc, pg, pn, rg, ds, fi, ow, po, pw, pl, qu, ou, qp, go, m, c, rfl, rfl, hJ⟩ := I
  exact ⟨rfl, I4⟩
theorem i_vc_printed {k : Nat} {u : SX} {v : SY} (I : i_Rel k u v) (hk : k + 4 ≤ 2048) : wpX_printed (fun r => wpY_printed (fun r' => r' = r ∧ i_Rel (k + 4) u v) v) u := by
  have I4 := i_up I
  obtain ⟨ex, kd, ns, np, wo, en, st, pp, sp, pc, pg, pn, rg, ds, fi, ow, po, pw, pl, qu, ou, qp, go, m, c, rfl, rfl, hJ⟩ := I
  exact ⟨rfl, I4⟩
theorem i_vc_output {k : Nat} {u : SX} {v : SY} (I : i_Rel k u v) (hk : k + 4 ≤ 2048) (v1 : Int32) : wpX_output (fun r => wpY_output (fun r' => r' = r ∧ i_Rel (k + 4) u v) v v1) u v1 := by
  have I4 := i_up I
  obtain ⟨ex, kd, ns, np, wo, en, st, pp, sp, pc, pg, pn, rg, ds, fi, ow, po, pw, pl, qu, ou, qp, go, m, c, rfl, rfl, hJ⟩ := I
  rcases ux_rg v1 32 (by decide) with ⟨q, hq, rfl⟩ | hr
  · have vq : vp_in (nI q) 32 := vp_in_nI hq (by decide)
    refine br_f (nI_pos (by omega)) (br_f (nI_ge (b := 32) hq (by decide)) ?_)
    by_cases hc : nI q < nI c
    · refine br_t hc ⟨vq, ?_⟩
      unfold wpY_output
      exact ya_inN (b := 0) (e := 31) (by omega) (by omega) (by omega) (br_f (by decide) (br_f (Int32.not_le.mpr hc) ⟨vq, rfl, I4⟩))
    · refine br_f hc ?_
      unfold wpY_output
      exact ya_inN (b := 0) (e := 31) (by omega) (by omega) (by omega) (br_f (by decide) (br_t (Int32.not_lt.mp hc) ⟨rfl, I4⟩))
  · have hY : wpY_output (fun r' => r' = 0 ∧ i_Rel (k + 4) (nI m, nI c, ex, kd, ns, np, wo, en, st, pp, sp, pc, pg, pn, rg, ds, fi, ow, po, pw, pl, qu, ou) ((nI m), ex, (nI c), go, kd, (ux_LN kd ns), wo, (ux_EN en), np, st, qp, sp, pn, pg, rg, (ux_ED ds), pc, fi, ow, po, pl, pw, qu, ou)) ((nI m), ex, (nI c), go, kd, (ux_LN kd ns), wo, (ux_EN en), np, st, qp, sp, pn, pg, rg, (ux_ED ds), pc, fi, ow, po, pl, pw, qu, ou) v1 := by
      unfold wpY_output
      exact ya_inR 31 (by omega) hr (br_t rfl ⟨rfl, I4⟩)
    rcases hr with h1 | ⟨h1, h2⟩
    · exact br_t h1 hY
    · exact br_f h1 (br_t h2 hY)
theorem i_vc_level {k : Nat} {u : SX} {v : SY} (I : i_Rel k u v) (hk : k + 4 ≤ 2048) (v1 : Int32) : wpX_level (fun r => wpY_level (fun r' => r' = r ∧ i_Rel (k + 4) u v) v v1) u v1 := by
  have I4 := i_up I
  obtain ⟨ex, kd, ns, np, wo, en, st, pp, sp, pc, pg, pn, rg, ds, fi, ow, po, pw, pl, qu, ou, qp, go, m, c, rfl, rfl, hJ⟩ := I
  by_cases h0 : v1 = 0
  · exact br_t h0 (br_t h0 ⟨rfl, I4⟩)
  · by_cases h1 : v1 = 1
    · exact br_f h0 (br_t h1 (br_f h0 (br_t h1 ⟨rfl, I4⟩)))
    · exact br_f h0 (br_f h1 (br_f h0 (br_f h1 ⟨rfl, I4⟩)))
end UX28C
end
section
section UX29
theorem i_vc_run {k : Nat} {u : SX} {v : SY} (I : i_Rel k u v) (hk : k + 4 ≤ 2048) (v1 : Int32) : wpX_run (fun r u' => wpY_run (fun r' v' => r' = r ∧ i_Rel (k + 4) u' v') v v1) u v1 := by
  have go1 : ∀ t, t ≤ 80 → ∃ r u2 v2, i_Rel (k + 4) u2 v2 ∧ (∀ post : Int32 → SX → Prop, post r u2 → match u with | (ql, pr, ex, kd, ns, np, wo, en, st, pp, sp, pc, pg, pn, rg, ds, fi, ow, po, pw, pl, qu, ou) => wX_run_18 post (nI (0 + t)) (t + 1) (nI 0) (nI 0) ql pr ex kd ns np wo en st pp sp pc pg pn rg ds fi ow po pw pl qu ou) ∧ (∀ post : Int32 → SY → Prop, post r v2 → match v with | (ql, ex, pr, go, kd, ns, wo, en, np, st, qp, sp, pn, pg, rg, ds, pc, fi, ow, po, pl, pw, qu, ou) => wY_run_23 post (nI (0 + t)) (t + 1) (nI 0) ql ex pr go kd ns wo en np st qp sp pn pg rg ds pc fi ow po pl pw qu ou) := by
    intro t ht
    obtain ⟨r, u2, v2, hA, h1, h2⟩ := ux_run t 0 (60 * k) u v (by omega) (by omega) I
    exact ⟨r, u2, v2, ux_A_mono hA (by omega), h1, h2⟩
  have I4 := i_up I
  obtain ⟨ex, kd, ns, np, wo, en, st, pp, sp, pc, pg, pn, rg, ds, fi, ow, po, pw, pl, qu, ou, qp, go, m, c, rfl, rfl, hJ⟩ := I
  by_cases h0 : v1 < 0
  · have h80 : v1 ≤ 80 := Int32.le_trans (Int32.le_of_lt h0) (by decide)
    refine br_t h80 ⟨1, br_t (Int32.le_of_lt h0) ?_⟩
    exact br_f (ux_ng h0) ⟨1, br_t (by decide) ⟨rfl, I4⟩⟩
  · by_cases h80 : v1 ≤ 80
    · obtain ⟨t, ht, rfl⟩ := nI_of h0
      have ht2 : t ≤ 80 := (nI_leI (b := 80) ht (by decide)).mp h80
      obtain ⟨r, u2, v2, hA, h1, h2⟩ := go1 t ht2
      rw [Nat.zero_add] at h1 h2
      exact br_t h80 ⟨t + 1, h1 _ (br_t (ux_nl h0) (br_t h80 ⟨t + 1, h2 _ ⟨rfl, hA⟩⟩))⟩
    · obtain ⟨r, u2, v2, hA, h1, h2⟩ := go1 80 (by omega)
      exact br_f h80 ⟨81, h1 _ (br_t (ux_nl h0) (br_f h80 ⟨81, h2 _ ⟨rfl, hA⟩⟩))⟩
end UX29
section UX29B
variable {ql pr go : Int32} {ex : Int64} {kd ns le wo en et np st qp sp pn pg rg ee ds pc fi ow po pl pw qu ou : Nat → Int32}
variable {post : SY → Prop}
theorem ys_in (h : post (ql, ex, pr, go, upd kd 0 2, le, wo, ux_EN (fun _ => 0), np, st, qp, sp, pn, pg, rg, ee, pc, fi, ow, po, pl, pw, qu, ou)) : ∀ r i, i + r = 150 → wY_init_177 post ql ex pr go (r + 1) (nI i) kd le wo (fun j => if j < i then -1 else 0) np st qp sp pn pg rg ee pc fi ow po pl pw qu ou := by
  intro r
  induction r with
  | zero =>
    intro i hi
    have ei : i = 150 := by omega
    subst ei
    exact br_t (by decide) (nm_e h)
  | succ r ih =>
    intro i hi
    have H := ih (i + 1) (by omega)
    have e : (fun j => if j < i + 1 then (-1 : Int32) else 0) = upd (fun j => if j < i then (-1 : Int32) else 0) i (-1) := by
      funext j
      by_cases ej : j = i
      · rw [ej, ux_us]; exact if_pos (by omega)
      · rw [ux_un ej]
        by_cases hl : j < i
        · rw [if_pos hl, if_pos (by omega)]
        · rw [if_neg hl, if_neg (by omega)]
    rw [e] at H
    refine br_f (nI_ge (b := 150) (by omega) (by decide)) ⟨vp_in_nI (by omega) (by decide), ?_⟩
    rw [ux_c (n := i) (by omega)]
    exact nm_e (nm_r (nI_1 i) H)
end UX29B
section UX29C
theorem ux_J0 : ux_J 0 (upd (fun _ => 0) 0 2) (fun _ => 0) (upd (fun _ => 0) 0 0) (fun _ => 0) (fun _ => 0) (fun _ => 0) (fun _ => 0) (fun _ => 0) (fun _ => 0) (fun _ => 0) (fun _ => 0) (fun _ => 0) (fun _ => 0) (fun _ => 0) (fun _ => 0) 0 0 := by
  have hk : ∀ n, 0 < n → upd (fun _ => 0) 0 2 n = (0 : Int32) := fun n hn => ux_un (by omega)
  have hk0 : upd (fun _ => (0 : Int32)) 0 2 0 = 2 := ux_us
  refine ⟨⟨⟨hk0, fun n _ => ?_⟩, fun _ _ => Or.inl rfl, ⟨ux_us, fun n n0 _ h => ?_⟩, fun i j n _ _ n0 _ e => ?_, fun n _ => ⟨fun h => ?_, fun h => ?_⟩⟩, fun _ _ => Or.inl rfl, fun j o _ ho e => ?_, fun _ _ _ _ _ => rfl, fun p _ => ⟨Or.inl rfl, fun h => absurd rfl h, fun h => absurd (show (0 : Int32) = 1 ∨ (0 : Int32) = 2 from h) (by decide)⟩, ⟨by omega, fun i h => absurd h (by omega), fun i j _ h => absurd h (by omega)⟩, fun k _ => ⟨0, by omega, rfl⟩, fun n n0 _ h => ?_, Nat.le_refl 0⟩
  · by_cases e : n = 0
    · rw [e]; exact Or.inr (Or.inr hk0)
    · exact Or.inl (hk n (by omega))
  · rw [hk n n0] at h; exact absurd h ux_n02
  · exact absurd e.symm (ux_nz n0 (by omega))
  · have e0 : ux_cn (fun _ => 0) n = 0 := ux_ct_z 15 (fun _ _ => rfl)
    rw [e0]
    exact ⟨rfl, by omega⟩
  · by_cases e : n = 0
    · rw [e, hk0] at h; exact absurd h ux_n21
    · rw [hk n (by omega)] at h; exact absurd h ux_n01
  · exact absurd e.symm (ux_nz (by omega) (by omega))
  · rw [hk n n0] at h; exact absurd h ux_n01
theorem i_vc0 : wpX_init (fun u => wpY_init (fun v => i_Rel 0 u v)) := by
  unfold wpX_init
  refine nm_e (nm_e ⟨151, ?_⟩)
  have eL : ux_LN (upd (fun _ => 0) 0 2) (fun _ => 0) = fun _ => 0 := by
    funext j
    unfold ux_LN
    split <;> rfl
  have eD : ux_ED (fun _ => 0) = fun _ => 0 := by
    funext j
    exact ux_cv0
  have hA : ux_A 0 (nI 0, nI 0, 0, upd (fun _ => 0) 0 2, (fun _ => 0), upd (fun _ => 0) 0 0, (fun _ => 0), (fun _ => 0), (fun _ => 0), (fun _ => 0), (fun _ => 0), (fun _ => 0), (fun _ => 0), (fun _ => 0), (fun _ => 0), (fun _ => 0), (fun _ => 0), (fun _ => 0), (fun _ => 0), (fun _ => 0), (fun _ => 0), (fun _ => 0), (fun _ => 0)) (nI 0, 0, nI 0, 0, upd (fun _ => 0) 0 2, ux_LN (upd (fun _ => 0) 0 2) (fun _ => 0), (fun _ => 0), ux_EN (fun _ => 0), upd (fun _ => 0) 0 0, (fun _ => 0), (fun _ => 0), (fun _ => 0), (fun _ => 0), (fun _ => 0), (fun _ => 0), ux_ED (fun _ => 0), (fun _ => 0), (fun _ => 0), (fun _ => 0), (fun _ => 0), (fun _ => 0), (fun _ => 0), (fun _ => 0), (fun _ => 0)) := ux_Ai ux_J0
  rw [eL, eD] at hA
  have e0 : (fun _ => (0 : Int32)) = fun j => if j < 0 then (-1 : Int32) else 0 := by
    funext j
    exact (if_neg (Nat.not_lt_zero j)).symm
  have en : upd (fun _ => (0 : Int32)) 0 0 = fun _ => 0 := ux_ue rfl
  have hA2 : ∀ f : Nat → Int32, f = (fun _ => 0) → ux_A 0 (nI 0, nI 0, 0, upd (fun _ => 0) 0 2, (fun _ => 0), upd (fun _ => 0) 0 0, (fun _ => 0), (fun _ => 0), (fun _ => 0), (fun _ => 0), (fun _ => 0), (fun _ => 0), (fun _ => 0), (fun _ => 0), (fun _ => 0), (fun _ => 0), (fun _ => 0), (fun _ => 0), (fun _ => 0), (fun _ => 0), (fun _ => 0), (fun _ => 0), (fun _ => 0)) (nI 0, 0, nI 0, 0, upd (fun _ => 0) 0 2, (fun _ => 0), (fun _ => 0), ux_EN (fun _ => 0), f, (fun _ => 0), (fun _ => 0), (fun _ => 0), (fun _ => 0), (fun _ => 0), (fun _ => 0), (fun _ => 0), (fun _ => 0), (fun _ => 0), (fun _ => 0), (fun _ => 0), (fun _ => 0), (fun _ => 0), (fun _ => 0), (fun _ => 0)) := by
    intro f hf
    rw [hf, en]
    rw [en] at hA
    exact hA
  have key := ys_in (kd := fun _ => 0) (le := fun _ => 0) (wo := fun _ => 0) (np := fun _ => 0) (st := fun _ => 0) (qp := fun _ => 0) (sp := fun _ => 0) (pn := fun _ => 0) (pg := fun _ => 0) (rg := fun _ => 0) (ee := fun _ => 0) (pc := fun _ => 0) (fi := fun _ => 0) (ow := fun _ => 0) (po := fun _ => 0) (pl := fun _ => 0) (pw := fun _ => 0) (qu := fun _ => 0) (ou := fun _ => 0) (ql := 0) (ex := 0) (pr := 0) (go := 0) (post := fun v => i_Rel 0 (0, 0, 0, upd (fun _ => 0) 0 2, (fun _ => 0), upd (fun _ => 0) 0 0, (fun _ => 0), (fun _ => 0), (fun _ => 0), (fun _ => 0), (fun _ => 0), (fun _ => 0), (fun _ => 0), (fun _ => 0), (fun _ => 0), (fun _ => 0), (fun _ => 0), (fun _ => 0), (fun _ => 0), (fun _ => 0), (fun _ => 0), (fun _ => 0), (fun _ => 0)) v) (hA2 _ rfl) 150 0 (by omega)
  rw [← e0] at key
  exact key
end UX29C
end
section
section UX30X
variable {ql pr : Int32} {ex : Int64} {kd ns np wo en st pp sp pc pg pn rg ds fi ow po pw pl qu ou : Nat → Int32}
variable {post : Int32 → SX → Prop} {p n m q g : Nat} {x : Int32}
theorem xa_f49y (hn0 : 0 < n) (hn : n < 10) (hq : q < 20) (hg : g ≤ 20) (eg : ns n = nI g) (hle : q ≤ g) (h1 : q = g → post (nI n) (ql, pr, ex, kd, upd ns n (nI (q + 1)), np, upd wo (n * 20 + q) x, en, st, pp, sp, pc, pg, pn, rg, ds, fi, ow, po, pw, pl, qu, ou)) (h2 : q ≠ g → post (nI n) (ql, pr, ex, kd, ns, np, upd wo (n * 20 + q) x, en, st, pp, sp, pc, pg, pn, rg, ds, fi, ow, po, pw, pl, qu, ou)) : wX_file_49 post (nI q) x (nI n) ql pr ex kd ns np wo en st pp sp pc pg pn rg ds fi ow po pw pl qu ou := by
  unfold wX_file_49
  refine br_f (ux_nz hn0 (by omega)) ⟨vp_in_nI hn (by decide), ?_⟩
  rw [ux_c (n := n) (by omega), eg]
  refine br_t (nI_le hle (by omega)) ?_
  by_cases e : q = g
  · exact xa_pw1 hn hq (by rw [eg, e]) (h1 e)
  · exact xa_pw0 hn hq hg e eg (h2 e)
theorem xa_f49n (hn0 : 0 < n) (hn : n < 10) (hq : q < 20) (eg : ns n = nI g) (hlt : g < q) (h : post (-1000000) (ql, pr, ex, kd, ns, np, wo, en, st, pp, sp, pc, pg, pn, rg, ds, fi, ow, po, pw, pl, qu, ou)) : wX_file_49 post (nI q) x (nI n) ql pr ex kd ns np wo en st pp sp pc pg pn rg ds fi ow po pw pl qu ou := by
  unfold wX_file_49
  refine br_f (ux_nz hn0 (by omega)) ⟨vp_in_nI hn (by decide), ?_⟩
  rw [ux_c (n := n) (by omega), eg]
  exact br_f (nI_ge hlt (by omega)) h
theorem xs_sp {y : Int32} (hp : p < 5) (hn : n < 10) (hm : m < 5) (h : post (nI p) (nI (m + 1), pr, ex, kd, ns, np, wo, en, st, pp, upd sp p 0, pc, ux_cw pg wo (p * 20) (n * 20) 20, upd pn p (ns n), upd (ux_zp rg p) (p * 4) y, ds, fi, ow, po, pw, pl, upd qu m (nI p), ou)) : ∀ r i, i + r = 4 → wX_spawn_49 post y (nI p) (nI n) (nI m) pr ex (r + 1) (nI i) kd ns np wo en st pp sp pc pg pn (ux_zi rg p i) ds fi ow po pw pl qu ou := by
  intro r
  induction r with
  | zero =>
    intro i hi
    have ei : i = 4 := by omega
    subst ei
    refine br_t (by decide) ?_
    rw [show nI p * 4 = nI (p * 4) from ux_mul_l p 4, ux_c (n := p * 4) (by omega)]
    exact ⟨vp_in_nI (by omega) (by decide), nm_e (xa_ld hp hn (xa_jq hp hm h))⟩
  | succ r ih =>
    intro i hi
    have H := ih (i + 1) (by omega)
    rw [ux_zi_s] at H
    have e : nI p * 4 + nI i = nI (p * 4 + i) := by rw [ux_mul_l, nI_add]
    refine br_f (nI_ge (b := 4) (by omega) (by decide)) ?_
    rw [e, ux_c (n := p * 4 + i) (by omega)]
    exact ⟨vp_in_nI (by omega) (by decide), nm_e (nm_r (nI_1 i) H)⟩
end UX30X
section UX30Y
variable {ql pr go : Int32} {ex : Int64} {kd ns le wo en et np st qp sp pn pg rg ee ds pc fi ow po pl pw qu ou : Nat → Int32}
variable {post : Int32 → SY → Prop} {p n m q g i f : Nat} {x y z : Int32}
theorem ya_f106 (hn : n < 10) (hq : q < 20) (hg : g ≤ 20) (eg : le n = nI g) (h1 : q = g → post (nI n) (ql, ex, pr, go, kd, upd le n (nI (q + 1)), upd wo (n * 20 + q) x, et, np, st, qp, sp, pn, pg, rg, ee, pc, fi, ow, po, pl, pw, qu, ou)) (h2 : q ≠ g → post (nI n) (ql, ex, pr, go, kd, le, upd wo (n * 20 + q) x, et, np, st, qp, sp, pn, pg, rg, ee, pc, fi, ow, po, pl, pw, qu, ou)) : wY_file_106 post (nI q) x (nI n) ql ex pr go kd le wo et np st qp sp pn pg rg ee pc fi ow po pl pw qu ou := by
  unfold wY_file_106
  have e : 20 * nI n + nI q = nI (n * 20 + q) := by rw [ux_l_mul, nI_add, Nat.mul_comm]
  have vn : vp_in (nI n) 10 := vp_in_nI hn (by decide)
  rw [e, ux_c (n := n * 20 + q) (by omega), ux_c (n := n) (by omega), eg, nI_1]
  refine ⟨vp_in_nI (by omega) (by decide), nm_e ⟨vn, ?_⟩⟩
  by_cases eq : q = g
  · have h := h1 eq
    subst eq
    exact br_t rfl ⟨vn, vn, nm_e h⟩
  · exact br_f (ux_ne eq (by omega) (by omega)) (h2 eq)
theorem ys_s1 (hp : p < 5) (hi : i < 4) (hz : (i = 0 ∧ z = y) ∨ (i ≠ 0 ∧ z = 0)) (he : ee (p * 4 + i) = 0) (h : wY_spawn_62 post y (nI p) ql ex pr go f (nI (p * 4 + i + 1)) kd le wo et np st qp sp pn pg (upd rg (p * 4 + i) z) ee pc fi ow po pl pw qu ou) : wY_spawn_62 post y (nI p) ql ex pr go (f + 1) (nI (p * 4 + i)) kd le wo et np st qp sp pn pg rg ee pc fi ow po pl pw qu ou := by
  have e1 : 4 * nI p + 4 = nI (p * 4 + 4) := by rw [ux_l_mul, ux_add_l, Nat.mul_comm]
  have e2 : 4 * nI p = nI (p * 4) := by rw [ux_l_mul, Nat.mul_comm]
  have ci : (nI (p * 4 + i)).toNatClampNeg = p * 4 + i := ux_c (by omega)
  have vi : vp_in (nI (p * 4 + i)) 20 := vp_in_nI (by omega) (by decide)
  have key : wY_spawn_91 post (wY_spawn_62 post y (nI p) ql ex pr go f) y (nI p) (nI (p * 4 + i)) z (nI (p * 4 + i)) ql ex pr go kd le wo et np st qp sp pn pg rg ee pc fi ow po pl pw qu ou := by
    unfold wY_spawn_91
    rw [ci]
    exact ⟨vi, nm_e ⟨vi, nm_r (ux_ue he) (nm_r (nI_1 _) h)⟩⟩
  refine br_f (by rw [e1]; exact nI_ge (by omega) (by omega)) ?_
  rw [e2]
  rcases hz with ⟨h1, h2⟩ | ⟨h1, h2⟩
  · rw [h2] at key
    exact br_t (by rw [h1]; rfl) key
  · rw [h2] at key
    exact br_f (ux_ne (by omega) (by omega) (by omega)) key
theorem ya_sp (hp : p < 5) (hm : m < 6) (he : ∀ i, i < 4 → ee (p * 4 + i) = 0) (h : post (nI p) (nI (m + 1), ex, pr, go, kd, le, wo, et, np, upd st p 1, qp, sp, pn, pg, upd (upd (upd (upd rg (p * 4) y) (p * 4 + 1) 0) (p * 4 + 2) 0) (p * 4 + 3) 0, ee, pc, fi, ow, po, pl, pw, upd qu m (nI p), ou)) : wY_spawn_62 post y (nI p) (nI m) ex pr go 5 (nI (p * 4 + 0)) kd le wo et np st qp sp pn pg rg ee pc fi ow po pl pw qu ou := by
  have e1 : 4 * nI p + 4 = nI (p * 4 + 4) := by rw [ux_l_mul, ux_add_l, Nat.mul_comm]
  refine ys_s1 hp (by omega) (Or.inl ⟨rfl, rfl⟩) (he 0 (by omega)) (ys_s1 (i := 1) hp (by omega) (Or.inr ⟨by omega, rfl⟩) (he 1 (by omega)) (ys_s1 (i := 2) hp (by omega) (Or.inr ⟨by omega, rfl⟩) (he 2 (by omega)) (ys_s1 (i := 3) hp (by omega) (Or.inr ⟨by omega, rfl⟩) (he 3 (by omega)) ?_)))
  exact br_t (by rw [e1]; exact nI_le (by omega) (by omega)) (ya_jq hp hm h)
end UX30Y
section UX30
theorem ux_sprg {rg : Nat → Int32} {p : Nat} {y : Int32} : upd (ux_zp rg p) (p * 4) y = upd (upd (upd (upd rg (p * 4) y) (p * 4 + 1) 0) (p * 4 + 2) 0) (p * 4 + 3) 0 := by
  unfold ux_zp
  rw [ux_uc (k := p * 4 + 3) (i := p * 4) (by omega), ux_uc (k := p * 4 + 2) (i := p * 4) (by omega), ux_uc (k := p * 4 + 1) (i := p * 4) (by omega), ux_uu]
theorem i_vc_spawn {k : Nat} {u : SX} {v : SY} (I : i_Rel k u v) (hk : k + 4 ≤ 2048) (v1 : Int32) (v2 : Int32) : wpX_spawn (fun r u' => wpY_spawn (fun r' v' => r' = r ∧ i_Rel (k + 4) u' v') v v1 v2) u v1 v2 := by
  have I4 := i_up I
  obtain ⟨ex, kd, ns, np, wo, en, st, pp, sp, pc, pg, pn, rg, ds, fi, ow, po, pw, pl, qu, ou, qp, go, m, c, rfl, rfl, hJ⟩ := I
  obtain ⟨hF, hD, hO, hZ, hR, hU, hI, hL, hB⟩ := id hJ
  have hbad : ((∀ j, j < 5 → st j ≠ 0) ∨ ux_no en 0 v1 ∨ ∃ q n, ux_ye en 0 v1 q n ∧ kd n ≠ 1) → wpX_spawn (fun r u' => wpY_spawn (fun r' v' => r' = r ∧ i_Rel (k + 4) u' v') ((nI m), ex, (nI c), go, kd, (ux_LN kd ns), wo, (ux_EN en), np, st, qp, sp, pn, pg, rg, (ux_ED ds), pc, fi, ow, po, pl, pw, qu, ou) v1 v2) (nI m, nI c, ex, kd, ns, np, wo, en, st, pp, sp, pc, pg, pn, rg, ds, fi, ow, po, pw, pl, qu, ou) v1 v2 := by
    intro hw
    have hY : wpY_spawn (fun r' v' => r' = -1000000 ∧ i_Rel (k + 4) (nI m, nI c, ex, kd, ns, np, wo, en, st, pp, sp, pc, pg, pn, rg, ds, fi, ow, po, pw, pl, qu, ou) v') ((nI m), ex, (nI c), go, kd, (ux_LN kd ns), wo, (ux_EN en), np, st, qp, sp, pn, pg, rg, (ux_ED ds), pc, fi, ow, po, pl, pw, qu, ou) v1 v2 := by
      unfold wpY_spawn
      rcases ux_ls (fun j => st j = 0) 5 with ⟨p, hp, h0, hj⟩ | hno
      · refine ya_fp hp h0 hj ?_
        rcases ux_noye hF.2.1 (d := 0) (by omega) v1 with hn | ⟨q, n, hye, hk0, _⟩
        · exact ya_nmN (d := 0) (by omega) hn (br_f (nI_pos (by omega)) (br_t (by decide) ⟨rfl, I4⟩))
        · have hn := hye.2.2.2.1
          refine ya_nmY (d := 0) (by omega) hye (br_f (nI_pos (by omega)) (br_f (nI_pos (by omega)) ⟨vp_in_nI hn (by decide), ?_⟩))
          rw [ux_c (n := n) (by omega)]
          have h1 : kd n ≠ 1 := by
            rcases hw with z | z | ⟨q2, n2, hye2, hk⟩
            · exact absurd h0 (z p hp)
            · exfalso
              rcases z with ⟨q2, g1, g2, g3⟩ | hr
              · have e1 := hye.2.1
                rw [g2] at e1
                have e2 := ux_inj e1 (by omega) (by have := hye.1; omega)
                have e3 := hye.2.2.2.2
                rw [← e2, g3] at e3
                exact ux_nz hye.2.2.1 (by omega) e3.symm
              · have e1 := hye.2.1
                have h15 := hye.1
                rw [e1] at hr
                rcases hr with hr | ⟨_, hr⟩
                · exact nI_pos (by omega) hr
                · exact nI_ge h15 (by omega) hr
            · have e1 := hye2.2.1
              rw [hye.2.1] at e1
              have e2 := ux_inj e1 (by have := hye.1; omega) (by have := hye2.1; omega)
              have e3 := hye2.2.2.2.2
              rw [← e2, hye.2.2.2.2] at e3
              rw [ux_inj e3 (by omega) (by have := hye2.2.2.2.1; omega)]
              exact hk
          exact br_f h1 ⟨rfl, I4⟩
      · refine ya_fp0 hno ?_
        rcases ux_noye hF.2.1 (d := 0) (by omega) v1 with hn | ⟨q, n, hye, hk0, _⟩
        · exact ya_nmN (d := 0) (by omega) hn (br_t (by decide) ⟨rfl, I4⟩)
        · exact ya_nmY (d := 0) (by omega) hye (br_t (by decide) ⟨rfl, I4⟩)
    unfold wpX_spawn
    rcases ux_ls (fun j => st j = 0) 5 with ⟨p, hp, h0, hj⟩ | hno
    · refine xa_fp hp h0 hj ?_
      rcases hw with z | z | ⟨q, n, hye, h1⟩
      · exact absurd h0 (z p hp)
      · exact xa_fnN (d := 0) (by omega) z hF.1.1 (br_f (nI_pos (by omega)) (br_t rfl hY))
      · exact xa_fnD (d := 0) (by omega) hye h1 (br_f (nI_pos (by omega)) (br_t rfl hY))
    · refine xa_fp0 hno ?_
      rcases ux_noye hF.2.1 (d := 0) (by omega) v1 with hn | ⟨q, n, hye, hk0, _⟩
      · exact xa_fnN (d := 0) (by omega) hn hF.1.1 (br_t (by decide) hY)
      · by_cases h1 : kd n = 1
        · exact xa_fnY (d := 0) (by omega) hye h1 (br_t (by decide) hY)
        · exact xa_fnD (d := 0) (by omega) hye h1 (br_t (by decide) hY)
  rcases ux_ls (fun j => st j = 0) 5 with ⟨p, hp, h0, hj⟩ | hno
  · rcases ux_noye hF.2.1 (d := 0) (by omega) v1 with hn | ⟨q, n, hye, hk0, _⟩
    · exact hbad (Or.inr (Or.inl hn))
    · by_cases h1 : kd n = 1
      · have hn := hye.2.2.2.1
        have hn0 := hye.2.2.1
        obtain ⟨g, hg, eg⟩ := (hF.2.2.2.2 n hn).2 h1
        obtain ⟨hm, hJ2⟩ := ux_J_spawn (q := g) hJ hp h0 hg
        have iv : vp_in (nI p) 5 := vp_in_nI hp (by decide)
        have cl : (nI p).toNatClampNeg = p := ux_c (by omega)
        have cn : (nI n).toNatClampNeg = n := ux_c (by omega)
        have eL : ux_LN kd ns n = ns n := ux_LN_f (by rw [h1]; exact ux_n12)
        have hED : ∀ i, i < 4 → ux_ED ds (p * 4 + i) = 0 := fun i hi => (ux_ED0 hD (by omega)).mpr (hZ p i hp hi (Or.inl h0))
        have hA : i_Rel (k + 4) (nI (m + 1), nI c, ex, kd, ns, np, wo, en, upd st p 1, upd pp p (-1), upd sp p 0, upd pc p 0, ux_cw pg wo (p * 20) (n * 20) 20, upd pn p (ns n), upd (ux_zp rg p) (p * 4) v2, ds, fi, ow, po, pw, pl, upd qu m (nI p), ou) ((nI (m + 1)), ex, (nI c), go, kd, (ux_LN kd ns), wo, (ux_EN en), np, (upd st p 1), (upd qp p (-1)), (upd sp p 0), (upd pn p (ns n)), (ux_cw pg wo (p * 20) (n * 20) 20), (upd (ux_zp rg p) (p * 4) v2), (ux_ED ds), (upd pc p 0), fi, ow, po, pl, pw, (upd qu m (nI p)), ou) := by
          rw [eg]
          exact ux_Ai (ux_J_mono hJ2 (by omega))
        unfold wpX_spawn
        refine xa_fp hp h0 hj (xa_fnY (d := 0) (by omega) hye h1 (br_f (nI_pos (by omega)) (br_f (ux_nz hn0 (by omega)) ⟨iv, ?_⟩)))
        rw [cl]
        refine nm_e ⟨iv, nm_e ⟨iv, nm_e ⟨5, xs_sp hp hn hm ?_ 4 0 (by omega)⟩⟩⟩
        unfold wpY_spawn
        refine ya_fp hp h0 hj (ya_nmY (d := 0) (by omega) hye (br_f (nI_pos (by omega)) (br_f (nI_pos (by omega)) ⟨vp_in_nI hn (by decide), br_t (by rw [cn]; exact h1) (ya_ld hp hn ⟨iv, ?_⟩)⟩)))
        rw [cl]
        refine nm_e ⟨iv, nm_e (nm_r (e' := nI (p * 4 + 0)) (by rw [ux_l_mul, Nat.mul_comm]; rfl) ⟨5, ya_sp hp (by omega) hED ⟨rfl, ?_⟩⟩)⟩
        rw [← ux_sprg, eL]
        exact hA
      · exact hbad (Or.inr (Or.inr ⟨q, n, hye, h1⟩))
  · exact hbad (Or.inl hno)
theorem i_vc_file {k : Nat} {u : SX} {v : SY} (I : i_Rel k u v) (hk : k + 4 ≤ 2048) (v1 : Int32) (v2 : Int32) (v3 : Int32) : wpX_file (fun r u' => wpY_file (fun r' v' => r' = r ∧ i_Rel (k + 4) u' v') v v1 v2 v3) u v1 v2 v3 := by
  have I4 := i_up I
  obtain ⟨ex, kd, ns, np, wo, en, st, pp, sp, pc, pg, pn, rg, ds, fi, ow, po, pw, pl, qu, ou, qp, go, m, c, rfl, rfl, hJ⟩ := I
  obtain ⟨hF, hD, hO, hZ, hR, hU, hI, hL, hB⟩ := id hJ
  have eS := ((hF.2.2.2.2 0 (by omega)).1 hF.1.1).1
  rcases ux_rg v1 15 (by decide) with ⟨a, ha, rfl⟩ | hr
  · rcases ux_rg v2 20 (by decide) with ⟨q, hq, rfl⟩ | hr2
    · have ca : (nI a).toNatClampNeg = a := ux_c (by omega)
      have v150 : vp_in (nI a) 150 := vp_in_nI (by omega) (by decide)
      have e0a : 0 * 15 + a = a := by omega
      have hY : ∀ (x : Int32) (u' : SX) (y : Int32), ux_EN en a = y → ((y < 0 → wY_file_52 (fun r' v' => r' = x ∧ i_Rel (k + 4) u' v') (nI a) (nI q) v3 y (nI m) ex (nI c) go kd (ux_LN kd ns) wo (ux_EN en) np st qp sp pn pg rg (ux_ED ds) pc fi ow po pl pw qu ou) ∧ (¬ y < 0 → (vp_in y 10 ∧ ((kd y.toNatClampNeg = 2 → -1000000 = x ∧ i_Rel (k + 4) u' ((nI m), ex, (nI c), go, kd, (ux_LN kd ns), wo, (ux_EN en), np, st, qp, sp, pn, pg, rg, (ux_ED ds), pc, fi, ow, po, pl, pw, qu, ou)) ∧ (¬ kd y.toNatClampNeg = 2 → wY_file_52 (fun r' v' => r' = x ∧ i_Rel (k + 4) u' v') (nI a) (nI q) v3 y (nI m) ex (nI c) go kd (ux_LN kd ns) wo (ux_EN en) np st qp sp pn pg rg (ux_ED ds) pc fi ow po pl pw qu ou))))) → wpY_file (fun r' v' => r' = x ∧ i_Rel (k + 4) u' v') ((nI m), ex, (nI c), go, kd, (ux_LN kd ns), wo, (ux_EN en), np, st, qp, sp, pn, pg, rg, (ux_ED ds), pc, fi, ow, po, pl, pw, qu, ou) (nI a) (nI q) v3 := by
        intro x u' y ey hy
        unfold wpY_file
        refine ya_inN (b := 0) (e := 14) (by omega) (by omega) (by omega) (br_f (by decide) (ya_inN (b := 0) (e := 19) (by omega) (by omega) (by omega) (br_f (by decide) ⟨v150, ?_⟩)))
        rw [ca]
        exact nm_r ey hy
      unfold wpX_file
      refine br_f (nI_pos (by omega)) (br_f (nI_ge (b := 15) ha (by decide)) (br_f (nI_pos (by omega)) (br_t (nI_lt (b := 20) hq (by decide)) ?_)))
      by_cases h0 : en (0 * 15 + a) = 0
      · have ey : ux_EN en a = -1 := by rw [← e0a]; exact ux_EN_0 (by omega) h0
        refine xa_fnN (d := 0) (by omega) (Or.inl ⟨a, ha, rfl, h0⟩) hF.1.1 (br_t rfl ?_)
        rcases ux_CEN hF 0 (nI a) with ⟨a2, n, hc⟩ | hc
        · have ea2 : a2 = a := (ux_inj hc.2.1 (by omega) (by have := hc.1; omega)).symm
          subst ea2
          obtain ⟨_, _, _, h4, h5, h6, h7, h8⟩ := id hc
          have h0n : (0 : Nat) ≠ n := by omega
          by_cases hq0 : q = 0
          · subst hq0
            refine br_t rfl (xa_mk1 (d := 0) (by omega) eS hc (xa_f49y (g := 0) h4 h5 (by omega) (by omega) ?_ (by omega) (fun _ => ?_) (fun z => absurd rfl z)))
            · rw [ux_un (f := upd ns n 0) (Ne.symm h0n), ux_us]; rfl
            · refine hY _ _ _ ey (br_t (by decide) (br_f (by decide) (ya_ce1 (d := 0) hF.2.1 (by omega) hc (br_f (by decide) (br_f (by decide) (br_t (by decide) (br_f (by decide) ?_)))))))
              refine ya_nw (d := 0) hF.2.1 (by omega) hc (ya_f106 (g := 0) h5 (by omega) (by omega) (by rw [ux_us]; rfl) (fun _ => ⟨rfl, ?_⟩) (fun z => absurd rfl z))
              have hJ3 := ux_J_ns (n := n) (q := 0 + 1) (ux_J_new (d := 0) (t := 1) hJ h4 h5 h6 (by omega) hF.1.1 ha h0 h8 (Or.inl rfl)) ux_us (by omega)
              have hA := ux_Ai (ex := ex) (wo := upd wo (n * 20 + 0) v3) (sp := sp) (pg := pg) (rg := rg) (pw := pw) (ou := ou) (go := go) (ux_J_mono (C := 60 * (k + 4)) hJ3 (by omega))
              rw [ux_LN_u (by rw [ux_us]; exact ux_n12), ux_LN_new (by rw [h6]; exact ux_n02) hF.1.1] at hA
              exact hA
          · refine br_f (ux_nz (by omega) (by omega)) (br_t rfl (hY _ _ _ ey (br_t (by decide) (br_f (by decide) (ya_ce1 (d := 0) hF.2.1 (by omega) hc (br_f (by decide) (br_f (by decide) (br_f ?_ ⟨rfl, I4⟩))))))))
            exact nI_nle (by omega) (by omega)
        · have hYb : wpY_file (fun r' v' => r' = -1000000 ∧ i_Rel (k + 4) (nI m, nI c, ex, kd, ns, np, wo, en, st, pp, sp, pc, pg, pn, rg, ds, fi, ow, po, pw, pl, qu, ou) v') ((nI m), ex, (nI c), go, kd, (ux_LN kd ns), wo, (ux_EN en), np, st, qp, sp, pn, pg, rg, (ux_ED ds), pc, fi, ow, po, pl, pw, qu, ou) (nI a) (nI q) v3 :=
            hY _ _ _ ey (br_t (by decide) (br_f (by decide) (ya_ce0 (d := 0) hF.2.1 (by omega) hc (br_t rfl ⟨rfl, I4⟩))))
          by_cases hq0 : q = 0
          · subst hq0
            exact br_t rfl (xa_mk0 (d := 0) hF (by omega) hF.1.1 hc (br_t rfl hYb))
          · exact br_f (ux_nz (by omega) (by omega)) (br_t rfl hYb)
      · rcases ux_noye hF.2.1 (d := 0) (by omega) (nI a) with hno | ⟨a2, n, hye, hk0, _⟩
        · exfalso
          rcases hno with ⟨a2, g1, g2, g3⟩ | hr
          · rw [← ux_inj g2 (by omega) (by omega)] at g3
            exact h0 g3
          · rcases hr with hr | ⟨_, hr⟩
            · exact nI_pos (by omega) hr
            · exact nI_ge ha (by omega) hr
        · have ea2 : a2 = a := (ux_inj hye.2.1 (by omega) (by have := hye.1; omega)).symm
          subst ea2
          obtain ⟨_, _, hn0, hn, he⟩ := id hye
          have ey : ux_EN en a2 = nI n := by
            rw [← e0a, ux_EN_1 (by omega) h0]; exact he
          have cn : (nI n).toNatClampNeg = n := ux_c (by omega)
          have vn : vp_in (nI n) 10 := vp_in_nI hn (by decide)
          by_cases h1 : kd n = 1
          · obtain ⟨g, hg, eg⟩ := (hF.2.2.2.2 n hn).2 h1
            have eL : ux_LN kd ns n = nI g := by rw [ux_LN_f (by rw [h1]; exact ux_n12), eg]
            have h12 : ¬ kd n = 2 := by rw [h1]; exact ux_n12
            have hY2 : ∀ (x : Int32) (u' : SX), wY_file_86 (fun r' v' => r' = x ∧ i_Rel (k + 4) u' v') (nI a2) (nI q) v3 (nI n) (nI g) (nI q) (nI m) ex (nI c) go kd (ux_LN kd ns) wo (ux_EN en) np st qp sp pn pg rg (ux_ED ds) pc fi ow po pl pw qu ou → wpY_file (fun r' v' => r' = x ∧ i_Rel (k + 4) u' v') ((nI m), ex, (nI c), go, kd, (ux_LN kd ns), wo, (ux_EN en), np, st, qp, sp, pn, pg, rg, (ux_ED ds), pc, fi, ow, po, pl, pw, qu, ou) (nI a2) (nI q) v3 := by
              intro x u' hx
              refine hY x u' _ ey (br_f (nI_pos (by omega)) ⟨vn, br_f (by rw [cn]; exact h12) (br_t (nI_pos' (by omega)) (br_t (nI_pos' (by omega)) ⟨vn, ?_⟩))⟩)
              rw [cn, eL]
              exact hx
            refine xa_fnY (d := 0) (by omega) hye h1 (br_f (ux_nz hn0 (by omega)) ?_)
            by_cases hle : q ≤ g
            · refine xa_f49y hn0 hn hq hg eg hle (fun e => ?_) (fun e => ?_)
              · refine hY2 _ _ (br_t (nI_le hle (by omega)) (br_t (nI_pos' (by omega)) (ya_f106 hn hq hg eL (fun _ => ⟨rfl, ?_⟩) (fun z => absurd e z))))
                have hA := ux_Ai (ex := ex) (wo := upd wo (n * 20 + q) v3) (sp := sp) (pg := pg) (rg := rg) (pw := pw) (ou := ou) (go := go) (ux_J_mono (C := 60 * (k + 4)) (ux_J_ns (q := q + 1) hJ h1 (by omega)) (by omega))
                rw [ux_LN_u h12] at hA
                exact hA
              · refine hY2 _ _ (br_t (nI_le hle (by omega)) (br_t (nI_pos' (by omega)) (ya_f106 hn hq hg eL (fun z => absurd z e) (fun _ => ⟨rfl, ?_⟩))))
                exact ux_Ai (ux_J_mono (C := 60 * (k + 4)) hJ (by omega))
            · exact xa_f49n hn0 hn hq eg (by omega) (hY2 _ _ (br_f (nI_ge (by omega) (by omega)) ⟨rfl, I4⟩))
          · have h2 : kd n = 2 := by
              rcases hF.1.2 n hn with z | z | z
              · exact absurd z hk0
              · exact absurd z h1
              · exact z
            have hYb : wpY_file (fun r' v' => r' = -1000000 ∧ i_Rel (k + 4) (nI m, nI c, ex, kd, ns, np, wo, en, st, pp, sp, pc, pg, pn, rg, ds, fi, ow, po, pw, pl, qu, ou) v') ((nI m), ex, (nI c), go, kd, (ux_LN kd ns), wo, (ux_EN en), np, st, qp, sp, pn, pg, rg, (ux_ED ds), pc, fi, ow, po, pl, pw, qu, ou) (nI a2) (nI q) v3 :=
              hY _ _ _ ey (br_f (nI_pos (by omega)) ⟨vn, br_t (by rw [cn]; exact h2) ⟨rfl, I4⟩⟩)
            refine xa_fnD (d := 0) (by omega) hye h1 (br_t rfl ?_)
            by_cases hq0 : q = 0
            · subst hq0
              exact br_t rfl (xa_mk0 (d := 0) hF (by omega) hF.1.1 (Or.inr ⟨a2, ha, rfl, Or.inl h0⟩) (br_t rfl hYb))
            · exact br_f (ux_nz (by omega) (by omega)) (br_t rfl hYb)
    · have hY : wpY_file (fun r' v' => r' = -1000000 ∧ i_Rel (k + 4) (nI m, nI c, ex, kd, ns, np, wo, en, st, pp, sp, pc, pg, pn, rg, ds, fi, ow, po, pw, pl, qu, ou) v') ((nI m), ex, (nI c), go, kd, (ux_LN kd ns), wo, (ux_EN en), np, st, qp, sp, pn, pg, rg, (ux_ED ds), pc, fi, ow, po, pl, pw, qu, ou) (nI a) v2 v3 := by
        unfold wpY_file
        exact ya_inN (b := 0) (e := 14) (by omega) (by omega) (by omega) (br_f (by decide) (ya_inR 19 (by omega) hr2 (br_t rfl ⟨rfl, I4⟩)))
      refine br_f (nI_pos (by omega)) (br_f (nI_ge (b := 15) ha (by decide)) ?_)
      rcases hr2 with h1 | ⟨h1, h2⟩
      · exact br_t h1 hY
      · exact br_f h1 (br_f (ux_hi h2) hY)
  · have hY : wpY_file (fun r' v' => r' = -1000000 ∧ i_Rel (k + 4) (nI m, nI c, ex, kd, ns, np, wo, en, st, pp, sp, pc, pg, pn, rg, ds, fi, ow, po, pw, pl, qu, ou) v') ((nI m), ex, (nI c), go, kd, (ux_LN kd ns), wo, (ux_EN en), np, st, qp, sp, pn, pg, rg, (ux_ED ds), pc, fi, ow, po, pl, pw, qu, ou) v1 v2 v3 := by
      unfold wpY_file
      exact ya_inR 14 (by omega) hr (br_t rfl ⟨rfl, I4⟩)
    rcases hr with h1 | ⟨h1, h2⟩
    · exact br_t h1 hY
    · exact br_f h1 (br_t h2 hY)
end UX30
end
