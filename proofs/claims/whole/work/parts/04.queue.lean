section UX4
variable {kd ns np en ds st pp qu : Nat → Int32} {n d m p c k o : Nat} {x : Int32}
/-! pigeons -/
theorem ux_pig : ∀ (n m : Nat) (f : Nat → Nat), (∀ i, i < m → f i < n) → (∀ i j, i < j → j < m → f i ≠ f j) → m ≤ n := by
  intro n
  induction n with
  | zero =>
    intro m f h _
    rcases Nat.eq_zero_or_pos m with h0 | h0
    · omega
    · have := h 0 h0; omega
  | succ n ih =>
    intro m f h hi
    rcases ux_ls (fun i => f i = n) m with ⟨a, ha, e, _⟩ | hno
    · have := ih (m - 1) (fun i => if i < a then f i else f (i + 1)) (by
        intro i hm
        show (if i < a then f i else f (i + 1)) < n
        by_cases hl : i < a
        · rw [if_pos hl]
          have h1 := h i (by omega)
          have h2 := hi i a hl ha
          omega
        · rw [if_neg hl]
          have h1 := h (i + 1) (by omega)
          have h2 := hi a (i + 1) (by omega) (by omega)
          omega) (by
        intro i j hij hj
        show (if i < a then f i else f (i + 1)) ≠ (if j < a then f j else f (j + 1))
        by_cases hl : i < a
        · by_cases hl2 : j < a
          · rw [if_pos hl, if_pos hl2]; exact hi i j hij (by omega)
          · rw [if_pos hl, if_neg hl2]; exact hi i (j + 1) (by omega) (by omega)
        · rw [if_neg hl, if_neg (by omega)]; exact hi (i + 1) (j + 1) (by omega) (by omega))
      omega
    · have := ih m f (fun i hm => by
        have h1 := h i hm
        have h2 := hno i hm
        have h3 : f i ≠ n := h2
        omega) hi
      omega
theorem ux_room (hQ : ux_Q st qu m) (hp : p < 5) (hN : ux_N qu m p) : m < 5 := by
  obtain ⟨h5, h1, h2⟩ := hQ
  by_cases hm : m < 5
  · exact hm
  · have e : m = 5 := by omega
    subst e
    have hg : ∀ i, ∃ a, i < 5 → a < 5 ∧ qu i = nI a := by
      intro i
      by_cases hi : i < 5
      · obtain ⟨a, a1, a2, _⟩ := h1 i hi
        exact ⟨a, fun _ => ⟨a1, a2⟩⟩
      · exact ⟨0, fun h => absurd h hi⟩
    have hc := fun i => (hg i).choose_spec
    generalize hf : (fun i => (hg i).choose) = f at hc
    have hc2 : ∀ i, i < 5 → f i < 5 ∧ qu i = nI (f i) := by
      intro i hi
      rw [← hf]
      exact (hg i).choose_spec hi
    have := ux_pig 5 6 (fun i => if i < 5 then f i else p) (by
      intro i hi
      show (if i < 5 then f i else p) < 5
      by_cases hl : i < 5
      · rw [if_pos hl]; exact (hc2 i hl).1
      · rw [if_neg hl]; exact hp) (by
      intro i j hij hj
      show (if i < 5 then f i else p) ≠ (if j < 5 then f j else p)
      rw [if_pos (by omega)]
      by_cases hl : j < 5
      · rw [if_pos hl]
        intro e
        refine h2 i j hij hl ?_
        rw [(hc2 i (by omega)).2, (hc2 j hl).2, e]
      · rw [if_neg hl]
        intro e
        refine hN i (by omega) ?_
        rw [(hc2 i (by omega)).2, e])
    omega
theorem ux_Q_join (hQ : ux_Q st qu m) (hp : p < 5) (hN : ux_N qu m p) (hs : st p = 1) : ux_Q st (upd qu m (nI p)) (m + 1) := by
  have hm := ux_room hQ hp hN
  obtain ⟨h5, h1, h2⟩ := hQ
  refine ⟨by omega, fun i hi => ?_, fun i j hij hj => ?_⟩
  · by_cases e : i = m
    · rw [e, ux_us]; exact ⟨p, hp, rfl, hs⟩
    · rw [ux_un e]; exact h1 i (by omega)
  · by_cases e : j = m
    · rw [e, ux_us, ux_un (by omega)]
      exact hN i (by omega)
    · rw [ux_un e, ux_un (by omega)]
      exact h2 i j hij (by omega)
theorem ux_N_join (hN : ux_N qu m p) (hc : c ≠ p) (h1 : c < 5) (h2 : p < 5) : ux_N (upd qu m (nI c)) (m + 1) p := by
  intro i hi
  by_cases e : i = m
  · rw [e, ux_us]; exact ux_ne hc (by omega) (by omega)
  · rw [ux_un e]; exact hN i (by omega)
theorem ux_Q_st {su : Nat → Int32} (hQ : ux_Q st qu m) (h : ∀ p, p < 5 → st p = 1 → (∃ i, i < m ∧ qu i = nI p) → su p = 1) : ux_Q su qu m := by
  obtain ⟨h5, h1, h2⟩ := hQ
  refine ⟨h5, fun i hi => ?_, h2⟩
  obtain ⟨a, a1, a2, a3⟩ := h1 i hi
  exact ⟨a, a1, a2, h a a1 a3 ⟨i, hi, a2⟩⟩
theorem ux_Q_upd (hQ : ux_Q st qu m) (hN : ux_N qu m p) : ux_Q (upd st p x) qu m :=
  ux_Q_st hQ (fun a _ h ⟨i, hi, e⟩ => by rw [ux_un (show a ≠ p from fun z => hN i hi (by rw [← z]; exact e))]; exact h)
theorem ux_Q_up1 (hQ : ux_Q st qu m) : ux_Q (upd st p 1) qu m := by
  refine ux_Q_st hQ (fun a _ h _ => ?_)
  by_cases e : a = p
  · rw [e, ux_us]
  · rw [ux_un e]; exact h
theorem ux_Q_N (hQ : ux_Q st qu m) (hs : st p ≠ 1) (hp : p < 5) : ux_N qu m p := by
  intro i hi e
  obtain ⟨a, a1, a2, a3⟩ := hQ.2.1 i hi
  rw [e] at a2
  rw [ux_inj a2 (by omega) (by omega)] at hs
  exact hs a3
theorem ux_Q_end (hQ : ux_Q st qu m) (hN : ux_N qu m p) : ux_Q (upd (ux_s1 st pp p 5) p x) qu m := by
  refine ux_Q_st hQ (fun a _ h ⟨i, hi, e⟩ => ?_)
  rw [ux_un (show a ≠ p from fun z => hN i hi (by rw [← z]; exact e)), ux_s1_to (by rw [h]; decide)]
  exact h
/-! leaving -/
def ux_lk (q : Nat → Int32) (p : Nat) : Nat → (Nat → Int32) × Nat
  | 0 => (q, 0)
  | k + 1 => if (ux_lk q p k).1 k = nI p then ux_lk q p k else (upd (ux_lk q p k).1 (ux_lk q p k).2 ((ux_lk q p k).1 k), (ux_lk q p k).2 + 1)
theorem ux_lk_t {q : Nat → Int32} (h : (ux_lk q p k).1 k = nI p) : ux_lk q p (k + 1) = ux_lk q p k := if_pos h
theorem ux_lk_f {q : Nat → Int32} (h : ¬ (ux_lk q p k).1 k = nI p) : ux_lk q p (k + 1) = (upd (ux_lk q p k).1 (ux_lk q p k).2 ((ux_lk q p k).1 k), (ux_lk q p k).2 + 1) := if_neg h
theorem ux_lk_le {q : Nat → Int32} : ∀ k, (ux_lk q p k).2 ≤ k ∧ ∀ j, k ≤ j → (ux_lk q p k).1 j = q j := by
  intro k
  induction k with
  | zero => exact ⟨Nat.le_refl 0, fun _ _ => rfl⟩
  | succ k ih =>
    by_cases h : (ux_lk q p k).1 k = nI p
    · rw [ux_lk_t h]; exact ⟨by omega, fun j hj => ih.2 j (by omega)⟩
    · rw [ux_lk_f h]
      refine ⟨by show _ + 1 ≤ _; omega, fun j hj => ?_⟩
      show upd _ _ _ j = _
      rw [ux_un (by omega)]; exact ih.2 j (by omega)
theorem ux_lk_in {q : Nat → Int32} : ∀ k, ∀ i, i < (ux_lk q p k).2 → ∃ j, j < k ∧ (ux_lk q p k).1 i = q j ∧ q j ≠ nI p := by
  intro k
  induction k with
  | zero => intro i hi; exact absurd hi (Nat.not_lt_zero i)
  | succ k ih =>
    by_cases h : (ux_lk q p k).1 k = nI p
    · rw [ux_lk_t h]
      intro i hi
      obtain ⟨j, j1, j2⟩ := ih i hi
      exact ⟨j, by omega, j2⟩
    · rw [ux_lk_f h]
      intro i hi
      have hi2 : i < (ux_lk q p k).2 + 1 := hi
      show ∃ j, j < k + 1 ∧ upd _ _ _ i = q j ∧ q j ≠ nI p
      have hk := (ux_lk_le (q := q) (p := p) k).2 k (Nat.le_refl k)
      by_cases e : i = (ux_lk q p k).2
      · rw [e, ux_us]
        exact ⟨k, by omega, hk, by rw [← hk]; exact h⟩
      · rw [ux_un e]
        obtain ⟨j, j1, j2⟩ := ih i (by omega)
        exact ⟨j, by omega, j2⟩
theorem ux_lk_di {q : Nat → Int32} : ∀ k, (∀ i j, i < j → j < k → q i ≠ q j) → ∀ i j, i < j → j < (ux_lk q p k).2 → (ux_lk q p k).1 i ≠ (ux_lk q p k).1 j := by
  intro k
  induction k with
  | zero => intro _ i j _ hj; exact absurd hj (Nat.not_lt_zero j)
  | succ k ih =>
    intro hq
    have ih2 := ih (fun i j h1 h2 => hq i j h1 (by omega))
    by_cases h : (ux_lk q p k).1 k = nI p
    · rw [ux_lk_t h]; exact ih2
    · rw [ux_lk_f h]
      intro i j hij hj
      have hj2 : j < (ux_lk q p k).2 + 1 := hj
      show upd _ _ _ i ≠ upd _ _ _ j
      have hk := (ux_lk_le (q := q) (p := p) k).2 k (Nat.le_refl k)
      by_cases e : j = (ux_lk q p k).2
      · rw [e, ux_us, ux_un (by omega), hk]
        obtain ⟨a, a1, a2, _⟩ := ux_lk_in (q := q) (p := p) k i (by omega)
        rw [a2]
        exact hq a k a1 (by omega)
      · rw [ux_un e, ux_un (by omega)]
        exact ih2 i j hij (by omega)
theorem ux_lk_id {q : Nat → Int32} : ∀ k, (∀ i, i < k → q i ≠ nI p) → ux_lk q p k = (q, k) := by
  intro k
  induction k with
  | zero => intro _; rfl
  | succ k ih =>
    intro h
    have e := ih (fun i hi => h i (by omega))
    have hf : ¬ (ux_lk q p k).1 k = nI p := by rw [e]; exact h k (by omega)
    rw [ux_lk_f hf, e]
    show (upd q k (q k), k + 1) = (q, k + 1)
    rw [ux_ue rfl]
theorem ux_Q_lk (hQ : ux_Q st qu m) : ux_Q st (ux_lk qu p m).1 (ux_lk qu p m).2 ∧ ux_N (ux_lk qu p m).1 (ux_lk qu p m).2 p := by
  obtain ⟨h5, h1, h2⟩ := hQ
  have hl := (ux_lk_le (q := qu) (p := p) m).1
  refine ⟨⟨by omega, fun i hi => ?_, ux_lk_di m h2⟩, fun i hi => ?_⟩
  · obtain ⟨j, j1, j2, _⟩ := ux_lk_in (q := qu) (p := p) m i hi
    rw [j2]; exact h1 j j1
  · obtain ⟨j, j1, j2, j3⟩ := ux_lk_in (q := qu) (p := p) m i hi
    rw [j2]; exact j3
theorem ux_N_lk (hN : ux_N qu m c) : ux_N (ux_lk qu p m).1 (ux_lk qu p m).2 c := by
  intro i hi
  obtain ⟨j, j1, j2, j3⟩ := ux_lk_in (q := qu) (p := p) m i hi
  rw [j2]; exact hN j j1
/-! the pictures under stores -/
theorem ux_EN_lt (h : k < 150) : ux_EN en k = if en k = 0 then -1 else en k := if_pos h
theorem ux_EN_0 (h : k < 150) (h0 : en k = 0) : ux_EN en k = -1 := by rw [ux_EN_lt h, if_pos h0]
theorem ux_EN_1 (h : k < 150) (h0 : en k ≠ 0) : ux_EN en k = en k := by rw [ux_EN_lt h, if_neg h0]
theorem ux_EN_u1 (h : k < 150) (hx : x ≠ 0) : ux_EN (upd en k x) = upd (ux_EN en) k x := by
  funext j
  by_cases e : j = k
  · rw [e, ux_us, ux_EN_1 h (by rw [ux_us]; exact hx), ux_us]
  · rw [ux_un e]
    unfold ux_EN
    rw [ux_un e]
theorem ux_EN_u0 (h : k < 150) : ux_EN (upd en k 0) = upd (ux_EN en) k (-1) := by
  funext j
  by_cases e : j = k
  · rw [e, ux_us, ux_EN_0 h ux_us]
  · rw [ux_un e]
    unfold ux_EN
    rw [ux_un e]
theorem ux_ED_u : ux_ED (upd ds k x) = upd (ux_ED ds) k (ux_cv x) := by
  funext j
  by_cases e : j = k
  · rw [e, ux_us]; unfold ux_ED; rw [ux_us]
  · rw [ux_un e]; unfold ux_ED; rw [ux_un e]
theorem ux_cv0 : ux_cv 0 = 0 := by decide
theorem ux_cvo : ∀ o, o < 8 → ux_cv (nI (1 + o)) = nI (1 + o) := by decide +kernel
theorem ux_cvr : ∀ k, k < 2 → ux_cv (nI (4096 + k)) = nI (101 + k) := by decide +kernel
theorem ux_cvw : ∀ k, k < 2 → ux_cv (nI (8192 + k)) = nI (201 + k) := by decide +kernel
theorem ux_LN_f (h : kd k ≠ 2) : ux_LN kd ns k = ns k := if_neg h
theorem ux_LN_u (hk : kd k ≠ 2) : ux_LN kd (upd ns k x) = upd (ux_LN kd ns) k x := by
  funext j
  by_cases e : j = k
  · rw [e, ux_us, ux_LN_f hk, ux_us]
  · rw [ux_un e]; unfold ux_LN; rw [ux_un e]
theorem ux_LN_d (hk : kd k = 2) : ux_LN kd (upd ns k x) = ux_LN kd ns := by
  funext j
  unfold ux_LN
  by_cases e : j = k
  · rw [e, if_pos hk, if_pos hk]
  · rw [ux_un e]
theorem ux_LN_k {ku : Nat → Int32} (h : ∀ j, kd j = 2 ↔ ku j = 2) : ux_LN kd ns = ux_LN ku ns := by
  funext j
  unfold ux_LN
  by_cases e : kd j = 2
  · rw [if_pos e, if_pos ((h j).mp e)]
  · rw [if_neg e, if_neg (fun z => e ((h j).mpr z))]
theorem ux_LN_ck {fi : Nat → Int32} : ux_LN (ux_ck kd en ds fi) ns = ux_LN kd ns :=
  (ux_LN_k (fun j => ⟨fun h => ux_ck_2 h, fun h => (ux_ck_of h ux_n20).1⟩)).symm
theorem ux_LN_new (hk : kd n ≠ 2) (hd : kd d = 2) : ux_LN (upd kd n x) (upd (upd ns n 0) d (upd ns n 0 d + 1)) = upd (ux_LN kd ns) n 0 := by
  funext j
  unfold ux_LN
  by_cases e : j = n
  · rw [e, ux_us, ux_us, ux_un (f := upd ns n 0) (ux_nx hd hk).symm, ux_us]
    split <;> rfl
  · rw [ux_un e, ux_un (f := fun n => if kd n = 2 then 0 else ns n) e]
    by_cases e2 : j = d
    · rw [e2, if_pos hd, if_pos hd]
    · rw [ux_un e2, ux_un e]
theorem ux_LN_rd (hk : kd n = 2) (h0 : ns n = 0) : ux_LN (upd kd n 0) ns = ux_LN kd ns := by
  funext j
  unfold ux_LN
  by_cases e : j = n
  · rw [e, ux_us, if_neg ux_n02, if_pos hk, h0]
  · rw [ux_un e]
end UX4
