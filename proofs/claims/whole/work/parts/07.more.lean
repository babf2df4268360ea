section UX7
variable {rg ds st qp pp f g : Nat → Int32} {p c a b i n : Nat} {x y : Int32}
/-! copies -/
def ux_cw (f g : Nat → Int32) (a b : Nat) : Nat → (Nat → Int32)
  | 0 => f
  | i + 1 => upd (ux_cw f g a b i) (a + i) (g (b + i))
def ux_cs (f : Nat → Int32) (a b : Nat) : Nat → (Nat → Int32)
  | 0 => f
  | i + 1 => upd (ux_cs f a b i) (a + i) (ux_cs f a b i (b + i))
theorem ux_cw_s : ux_cw f g a b (i + 1) = upd (ux_cw f g a b i) (a + i) (g (b + i)) := rfl
theorem ux_cs_s : ux_cs f a b (i + 1) = upd (ux_cs f a b i) (a + i) (ux_cs f a b i (b + i)) := rfl
theorem ux_cs_c4 (h : c ≠ p) : ux_cs f (c * 4) (p * 4) 4 = ux_c4 f c p := by
  show upd (upd (upd (upd f (c * 4 + 0) (f (p * 4 + 0))) (c * 4 + 1) (upd f (c * 4 + 0) (f (p * 4 + 0)) (p * 4 + 1))) (c * 4 + 2) (upd (upd f (c * 4 + 0) (f (p * 4 + 0))) (c * 4 + 1) (upd f (c * 4 + 0) (f (p * 4 + 0)) (p * 4 + 1)) (p * 4 + 2))) (c * 4 + 3) (upd (upd (upd f (c * 4 + 0) (f (p * 4 + 0))) (c * 4 + 1) (upd f (c * 4 + 0) (f (p * 4 + 0)) (p * 4 + 1))) (c * 4 + 2) (upd (upd f (c * 4 + 0) (f (p * 4 + 0))) (c * 4 + 1) (upd f (c * 4 + 0) (f (p * 4 + 0)) (p * 4 + 1)) (p * 4 + 2)) (p * 4 + 3)) = _
  unfold ux_c4
  have e1 : ∀ x, upd f (c * 4 + 0) x (p * 4 + 1) = f (p * 4 + 1) := fun x => ux_un (by omega)
  have e2 : ∀ x y, upd (upd f (c * 4 + 0) x) (c * 4 + 1) y (p * 4 + 2) = f (p * 4 + 2) := fun x y => by rw [ux_un (by omega), ux_un (by omega)]
  have e3 : ∀ x y z, upd (upd (upd f (c * 4 + 0) x) (c * 4 + 1) y) (c * 4 + 2) z (p * 4 + 3) = f (p * 4 + 3) := fun x y z => by rw [ux_un (by omega), ux_un (by omega), ux_un (by omega)]
  rw [e1, e2, e3]
  rfl
theorem ux_ED_c4 : ux_ED (ux_c4 ds c p) = ux_c4 (ux_ED ds) c p := by
  unfold ux_c4
  rw [ux_ED_u, ux_ED_u, ux_ED_u, ux_ED_u]
  rfl
theorem ux_ED_zp : ux_ED (ux_zp ds p) = ux_zp (ux_ED ds) p := by
  unfold ux_zp
  rw [ux_ED_u, ux_ED_u, ux_ED_u, ux_ED_u, ux_cv0]
theorem ux_fkr (h : c ≠ p) (ha : a < 4) : upd (ux_c4 (upd rg (p * 4 + a) x) c p) (p * 4 + a) y = upd (upd (ux_c4 rg c p) (p * 4 + a) y) (c * 4 + a) x := by
  funext j
  by_cases e1 : j = p * 4 + a
  · rw [e1, ux_us, ux_un (by omega), ux_us]
  · rw [ux_un e1]
    rcases ux_c4_or (f := upd rg (p * 4 + a) x) (c := c) (p := p) j with ⟨i, hi, ej, e⟩ | ⟨hj, e⟩
    · rw [e]
      by_cases ei : i = a
      · rw [ei, ux_us]
        rw [ei] at ej
        rw [ej, ux_us]
      · rw [ux_un (by omega), ux_un (by omega), ux_un e1]
        rcases ux_c4_or (f := rg) (c := c) (p := p) j with ⟨i2, hi2, ej2, e2⟩ | ⟨hj2, e2⟩
        · rw [e2]
          exact congrArg rg (by omega)
        · exact absurd ej (hj2 i hi)
    · rw [e, ux_un e1, ux_un (hj a ha), ux_un e1]
      rcases ux_c4_or (f := rg) (c := c) (p := p) j with ⟨i2, hi2, ej2, e2⟩ | ⟨hj2, e2⟩
      · exact absurd ej2 (hj i2 hi2)
      · exact e2.symm
/-! the reference's search for an ended child, from 4 down -/
def ux_ec (st qp : Nat → Int32) (p : Nat) : Nat → Int32
  | 0 => -2
  | n + 1 => if st (4 - n) ≠ 0 ∧ qp (4 - n) = nI p then (if st (4 - n) = 3 then nI (4 - n) else if ux_ec st qp p n = -2 then -1 else ux_ec st qp p n) else ux_ec st qp p n
theorem ux_ec_s : ux_ec st qp p (n + 1) = if st (4 - n) ≠ 0 ∧ qp (4 - n) = nI p then (if st (4 - n) = 3 then nI (4 - n) else if ux_ec st qp p n = -2 then -1 else ux_ec st qp p n) else ux_ec st qp p n := rfl
theorem ux_ec_n : ∀ n, n ≤ 5 → (∀ c, 5 - n ≤ c → c < 5 → ¬ (st c ≠ 0 ∧ qp c = nI p)) → ux_ec st qp p n = -2 := by
  intro n
  induction n with
  | zero => intro _ _; rfl
  | succ n ih =>
    intro hn h
    rw [ux_ec_s, if_neg (h (4 - n) (by omega) (by omega))]
    exact ih (by omega) (fun c h1 h2 => h c (by omega) h2)
theorem ux_ec_l : ∀ n, n ≤ 5 → (∀ c, 5 - n ≤ c → c < 5 → st c ≠ 0 → qp c = nI p → st c ≠ 3) → (∃ c, 5 - n ≤ c ∧ c < 5 ∧ st c ≠ 0 ∧ qp c = nI p) → ux_ec st qp p n = -1 := by
  intro n
  induction n with
  | zero => intro _ _ ⟨c, h1, h2, _⟩; omega
  | succ n ih =>
    intro hn h ⟨c, c1, c2, c3, c4⟩
    rw [ux_ec_s]
    by_cases hc : st (4 - n) ≠ 0 ∧ qp (4 - n) = nI p
    · rw [if_pos hc, if_neg (h (4 - n) (by omega) (by omega) hc.1 hc.2)]
      by_cases he : ∃ c, 5 - n ≤ c ∧ c < 5 ∧ st c ≠ 0 ∧ qp c = nI p
      · rw [ih (by omega) (fun c h1 h2 => h c (by omega) h2) he]
        decide
      · rw [ux_ec_n n (by omega) (fun c h1 h2 h3 => he ⟨c, h1, h2, h3⟩)]
        decide
    · rw [if_neg hc]
      refine ih (by omega) (fun c h1 h2 => h c (by omega) h2) ⟨c, ?_, c2, c3, c4⟩
      by_cases ec : c = 4 - n
      · rw [ec] at c3 c4; exact absurd ⟨c3, c4⟩ hc
      · omega
theorem ux_ec_e : ∀ n, n ≤ 5 → ∀ c, 5 - n ≤ c → c < 5 → st c = 3 → qp c = nI p → (∀ b, 5 - n ≤ b → b < c → ¬ (st b = 3 ∧ qp b = nI p)) → ux_ec st qp p n = nI c := by
  intro n
  induction n with
  | zero => intro _ c h1 h2; omega
  | succ n ih =>
    intro hn c c1 c2 c3 c4 hb
    rw [ux_ec_s]
    by_cases ec : c = 4 - n
    · rw [ec] at c3 c4
      rw [if_pos ⟨by rw [c3]; decide, c4⟩, if_pos c3, ec]
    · have e := ih (by omega) c (by omega) c2 c3 c4 (fun b h1 h2 => hb b (by omega) h2)
      by_cases hc : st (4 - n) ≠ 0 ∧ qp (4 - n) = nI p
      · rw [if_pos hc, if_neg (fun z => hb (4 - n) (by omega) (by omega) ⟨z, hc.2⟩), e, if_neg ?_]
        intro z
        have := nI_pos (n := c) (by omega)
        rw [z] at this
        exact this (by decide)
      · rw [if_neg hc]; exact e
end UX7
