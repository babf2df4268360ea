section UX8
variable {ql pr : Int32} {ex : Int64} {kd ns np wo en st pp sp pc pg pn rg ds fi ow po pw pl qu ou : Nat → Int32}
variable {post : Int32 → Prop} {d a n p c k o m : Nat} {x r w : Int32}
theorem ux_c (h : n < 100000) : (nI n).toNatClampNeg = n := nI_clamp (by omega)
/-- nothing is named r in d; n is named r in d -/
def ux_no (en : Nat → Int32) (d : Nat) (r : Int32) : Prop := (∃ a, a < 15 ∧ r = nI a ∧ en (d * 15 + a) = 0) ∨ r < 0 ∨ (¬ r < 0 ∧ nI 15 ≤ r)
def ux_ye (en : Nat → Int32) (d : Nat) (r : Int32) (a n : Nat) : Prop := a < 15 ∧ r = nI a ∧ 0 < n ∧ n < 10 ∧ en (d * 15 + a) = nI n
theorem ux_noye (hE : ux_E kd en) (hd : d < 10) (r : Int32) : ux_no en d r ∨ ∃ a n, ux_ye en d r a n ∧ kd n ≠ 0 ∧ kd d = 2 := by
  rcases ux_rg r 15 (by decide) with ⟨a, ha, e⟩ | h
  · rcases ux_nm hE hd ha with ⟨h, _⟩ | ⟨n, n0, n1, n2, _, n4, n5⟩
    · exact Or.inl (Or.inl ⟨a, ha, e, h⟩)
    · exact Or.inr ⟨a, n, ⟨ha, e, n0, n1, n2⟩, n4, n5⟩
  · exact Or.inl (Or.inr h)
theorem xa_nnA (hd : d < 10) (ha : a < 15) (h : post (en (d * 15 + a))) : wpX_nodeNamed post (ql, pr, ex, kd, ns, np, wo, en, st, pp, sp, pc, pg, pn, rg, ds, fi, ow, po, pw, pl, qu, ou) (nI d) (nI a) := by
  have e : nI d * 15 + nI a = nI (d * 15 + a) := by rw [ux_mul_l, nI_add]
  exact br_f (nI_pos (by omega)) (br_t (nI_lt (b := 15) ha (by decide)) ⟨by rw [e]; exact vp_in_nI (by omega) (by decide), by rw [e, ux_c (by omega)]; exact h⟩)
theorem xa_nnO (hr : r < 0 ∨ (¬ r < 0 ∧ nI 15 ≤ r)) (h : post 0) : wpX_nodeNamed post (ql, pr, ex, kd, ns, np, wo, en, st, pp, sp, pc, pg, pn, rg, ds, fi, ow, po, pw, pl, qu, ou) x r := by
  rcases hr with h1 | ⟨h1, h2⟩
  · exact br_t h1 h
  · exact br_f h1 (br_f (ux_hi h2) h)
theorem xa_nnN (hd : d < 10) (hr : ux_no en d r) (h : post 0) : wpX_nodeNamed post (ql, pr, ex, kd, ns, np, wo, en, st, pp, sp, pc, pg, pn, rg, ds, fi, ow, po, pw, pl, qu, ou) (nI d) r := by
  rcases hr with ⟨a, ha, e, h0⟩ | hr
  · rw [e]; exact xa_nnA hd ha (by rw [h0]; exact h)
  · exact xa_nnO hr h
theorem xa_nnY (hd : d < 10) (hr : ux_ye en d r a n) (h : post (nI n)) : wpX_nodeNamed post (ql, pr, ex, kd, ns, np, wo, en, st, pp, sp, pc, pg, pn, rg, ds, fi, ow, po, pw, pl, qu, ou) (nI d) r := by
  rw [hr.2.1]; exact xa_nnA hd hr.1 (by rw [hr.2.2.2.2]; exact h)
theorem xa_fnN (hd : d < 10) (hr : ux_no en d r) (h0 : kd 0 = 2) (h : post 0) : wpX_fileNamed post (ql, pr, ex, kd, ns, np, wo, en, st, pp, sp, pc, pg, pn, rg, ds, fi, ow, po, pw, pl, qu, ou) (nI d) r := by
  unfold wpX_fileNamed
  refine xa_nnN hd hr ⟨vp_in_iff.mpr (by decide), br_f ?_ h⟩
  show ¬ kd 0 = 1
  rw [h0]; decide
theorem xa_fnY (hd : d < 10) (hr : ux_ye en d r a n) (hk : kd n = 1) (h : post (nI n)) : wpX_fileNamed post (ql, pr, ex, kd, ns, np, wo, en, st, pp, sp, pc, pg, pn, rg, ds, fi, ow, po, pw, pl, qu, ou) (nI d) r := by
  unfold wpX_fileNamed
  exact xa_nnY hd hr ⟨vp_in_nI hr.2.2.2.1 (by decide), br_t (by rw [ux_c (by have := hr.2.2.2.1; omega)]; exact hk) h⟩
theorem xa_fnD (hd : d < 10) (hr : ux_ye en d r a n) (hk : kd n ≠ 1) (h : post 0) : wpX_fileNamed post (ql, pr, ex, kd, ns, np, wo, en, st, pp, sp, pc, pg, pn, rg, ds, fi, ow, po, pw, pl, qu, ou) (nI d) r := by
  unfold wpX_fileNamed
  exact xa_nnY hd hr ⟨vp_in_nI hr.2.2.2.1 (by decide), br_f (by rw [ux_c (by have := hr.2.2.2.1; omega)]; exact hk) h⟩
/-! searches: a step over what isn't it -/
theorem xs_fn : ∀ d i f, i + d ≤ 10 → (∀ j, i ≤ j → j < i + d → kd j ≠ 0) → wX_freeNode_2 post ql pr ex kd ns np wo en st pp sp pc pg pn rg ds fi ow po pw pl qu ou f (nI (i + d)) → wX_freeNode_2 post ql pr ex kd ns np wo en st pp sp pc pg pn rg ds fi ow po pw pl qu ou (f + d) (nI i) := by
  intro d
  induction d with
  | zero => intro i f _ _ h; exact h
  | succ d ih =>
    intro i f hi hj h
    refine br_f (nI_ge (b := 10) (by omega) (by decide)) ⟨vp_in_nI (by omega) (by decide), br_f (by rw [ux_c (by omega)]; exact hj i (by omega) (by omega)) (nm_r (nI_1 i) ?_)⟩
    exact ih (i + 1) f (by omega) (fun j h1 h2 => hj j (by omega) (by omega)) (by rw [show i + 1 + d = i + (d + 1) by omega]; exact h)
theorem xa_fr (hn : n < 10) (h0 : kd n = 0) (hj : ∀ j, j < n → kd j ≠ 0) (h : post (nI n)) : wpX_freeNode post (ql, pr, ex, kd, ns, np, wo, en, st, pp, sp, pc, pg, pn, rg, ds, fi, ow, po, pw, pl, qu, ou) := by
  refine ⟨1 + n, xs_fn n 0 1 (by omega) (fun j _ h2 => hj j (by omega)) ?_⟩
  rw [Nat.zero_add]
  exact br_f (nI_ge (b := 10) (by omega) (by decide)) ⟨vp_in_nI (by omega) (by decide), br_t (by rw [ux_c (by omega)]; exact h0) h⟩
theorem xa_fr0 (hj : ∀ j, j < 10 → kd j ≠ 0) (h : post 0) : wpX_freeNode post (ql, pr, ex, kd, ns, np, wo, en, st, pp, sp, pc, pg, pn, rg, ds, fi, ow, po, pw, pl, qu, ou) := by
  refine ⟨1 + 10, xs_fn 10 0 1 (by omega) (fun j _ h2 => hj j (by omega)) ?_⟩
  exact br_t (by decide) h
theorem xs_fp : ∀ d i f, i + d ≤ 5 → (∀ j, i ≤ j → j < i + d → st j ≠ 0) → wX_freeProcess_2 post ql pr ex kd ns np wo en st pp sp pc pg pn rg ds fi ow po pw pl qu ou f (nI (i + d)) → wX_freeProcess_2 post ql pr ex kd ns np wo en st pp sp pc pg pn rg ds fi ow po pw pl qu ou (f + d) (nI i) := by
  intro d
  induction d with
  | zero => intro i f _ _ h; exact h
  | succ d ih =>
    intro i f hi hj h
    refine br_f (nI_ge (b := 5) (by omega) (by decide)) ⟨vp_in_nI (by omega) (by decide), br_f (by rw [ux_c (by omega)]; exact hj i (by omega) (by omega)) (nm_r (nI_1 i) ?_)⟩
    exact ih (i + 1) f (by omega) (fun j h1 h2 => hj j (by omega) (by omega)) (by rw [show i + 1 + d = i + (d + 1) by omega]; exact h)
theorem xa_fp (hn : p < 5) (h0 : st p = 0) (hj : ∀ j, j < p → st j ≠ 0) (h : post (nI p)) : wpX_freeProcess post (ql, pr, ex, kd, ns, np, wo, en, st, pp, sp, pc, pg, pn, rg, ds, fi, ow, po, pw, pl, qu, ou) := by
  refine ⟨1 + p, xs_fp p 0 1 (by omega) (fun j _ h2 => hj j (by omega)) ?_⟩
  rw [Nat.zero_add]
  exact br_f (nI_ge (b := 5) (by omega) (by decide)) ⟨vp_in_nI (by omega) (by decide), br_t (by rw [ux_c (by omega)]; exact h0) h⟩
theorem xa_fp0 (hj : ∀ j, j < 5 → st j ≠ 0) (h : post (-1)) : wpX_freeProcess post (ql, pr, ex, kd, ns, np, wo, en, st, pp, sp, pc, pg, pn, rg, ds, fi, ow, po, pw, pl, qu, ou) := by
  refine ⟨1 + 5, xs_fp 5 0 1 (by omega) (fun j _ h2 => hj j (by omega)) ?_⟩
  exact br_t (by decide) h
theorem xs_ih : ∀ d i f, i + d ≤ 20 → (∀ j, i ≤ j → j < i + d → ds j ≠ w) → wX_isHeld_2 post w ql pr ex kd ns np wo en st pp sp pc pg pn rg ds fi ow po pw pl qu ou f (nI (i + d)) → wX_isHeld_2 post w ql pr ex kd ns np wo en st pp sp pc pg pn rg ds fi ow po pw pl qu ou (f + d) (nI i) := by
  intro d
  induction d with
  | zero => intro i f _ _ h; exact h
  | succ d ih =>
    intro i f hi hj h
    refine br_f (nI_ge (b := 20) (by omega) (by decide)) ⟨vp_in_nI (by omega) (by decide), br_f (by rw [ux_c (by omega)]; exact hj i (by omega) (by omega)) (nm_r (nI_1 i) ?_)⟩
    exact ih (i + 1) f (by omega) (fun j h1 h2 => hj j (by omega) (by omega)) (by rw [show i + 1 + d = i + (d + 1) by omega]; exact h)
theorem xa_ih1 (hh : ux_hd ds w) (h : post 1) : wpX_isHeld post (ql, pr, ex, kd, ns, np, wo, en, st, pp, sp, pc, pg, pn, rg, ds, fi, ow, po, pw, pl, qu, ou) w := by
  rcases ux_ls (fun j => ds j = w) 20 with ⟨i, hi, e, hj⟩ | hno
  · refine ⟨1 + i, xs_ih i 0 1 (by omega) (fun j _ h2 => hj j (by omega)) ?_⟩
    rw [Nat.zero_add]
    exact br_f (nI_ge (b := 20) (by omega) (by decide)) ⟨vp_in_nI (by omega) (by decide), br_t (by rw [ux_c (by omega)]; exact e) h⟩
  · obtain ⟨j, hj, e⟩ := hh
    exact absurd e (hno j hj)
theorem xa_ih0 (hh : ¬ ux_hd ds w) (h : post 0) : wpX_isHeld post (ql, pr, ex, kd, ns, np, wo, en, st, pp, sp, pc, pg, pn, rg, ds, fi, ow, po, pw, pl, qu, ou) w := by
  refine ⟨1 + 20, xs_ih 20 0 1 (by omega) (fun j _ h2 e => hh ⟨j, by omega, e⟩) ?_⟩
  exact br_t (by decide) h
theorem xs_nd (hp : p < 5) : ∀ d i f, i + d ≤ 4 → (∀ j, i ≤ j → j < i + d → ds (p * 4 + j) ≠ 0) → wX_newDescriptor_2 post (nI p) ql pr ex kd ns np wo en st pp sp pc pg pn rg ds fi ow po pw pl qu ou f (nI (i + d)) → wX_newDescriptor_2 post (nI p) ql pr ex kd ns np wo en st pp sp pc pg pn rg ds fi ow po pw pl qu ou (f + d) (nI i) := by
  intro d
  induction d with
  | zero => intro i f _ _ h; exact h
  | succ d ih =>
    intro i f hi hj h
    have e : nI p * 4 + nI i = nI (p * 4 + i) := by rw [ux_mul_l, nI_add]
    refine br_f (nI_ge (b := 4) (by omega) (by decide)) ⟨by rw [e]; exact vp_in_nI (by omega) (by decide), br_f (by rw [e, ux_c (by omega)]; exact hj i (by omega) (by omega)) (nm_r (nI_1 i) ?_)⟩
    exact ih (i + 1) f (by omega) (fun j h1 h2 => hj j (by omega) (by omega)) (by rw [show i + 1 + d = i + (d + 1) by omega]; exact h)
/-- the first descriptor of p from a on that is nothing is c; there is none -/
def ux_fd (ds : Nat → Int32) (p a c : Nat) : Prop := a ≤ c ∧ c < 4 ∧ ds (p * 4 + c) = 0 ∧ ∀ j, a ≤ j → j < c → ds (p * 4 + j) ≠ 0
def ux_nf (ds : Nat → Int32) (p a : Nat) : Prop := a ≤ 4 ∧ ∀ j, a ≤ j → j < 4 → ds (p * 4 + j) ≠ 0
theorem ux_fdnf (ds : Nat → Int32) (p a : Nat) (ha : a ≤ 4) : (∃ c, ux_fd ds p a c) ∨ ux_nf ds p a := by
  rcases ux_ls (fun j => a ≤ j ∧ ds (p * 4 + j) = 0) 4 with ⟨i, hi, e, hj⟩ | hno
  · exact Or.inl ⟨i, e.1, hi, e.2, fun j h1 h2 h3 => hj j h2 ⟨h1, h3⟩⟩
  · exact Or.inr ⟨ha, fun j h1 h2 h3 => hno j h2 ⟨h1, h3⟩⟩
theorem xa_nd (hp : p < 5) (hf : ux_fd ds p a c) (h : post (nI c)) : wpX_newDescriptor post (ql, pr, ex, kd, ns, np, wo, en, st, pp, sp, pc, pg, pn, rg, ds, fi, ow, po, pw, pl, qu, ou) (nI p) (nI a) := by
  obtain ⟨h1, h2, h3, h4⟩ := hf
  have e : nI p * 4 + nI c = nI (p * 4 + c) := by rw [ux_mul_l, nI_add]
  refine ⟨1 + (c - a), xs_nd hp (c - a) a 1 (by omega) (fun j g1 g2 => h4 j g1 (by omega)) ?_⟩
  rw [show a + (c - a) = c by omega]
  exact br_f (nI_ge (b := 4) (by omega) (by decide)) ⟨by rw [e]; exact vp_in_nI (by omega) (by decide), br_t (by rw [e, ux_c (by omega)]; exact h3) h⟩
theorem xa_nd0 (hp : p < 5) (hf : ux_nf ds p a) (h : post (-1)) : wpX_newDescriptor post (ql, pr, ex, kd, ns, np, wo, en, st, pp, sp, pc, pg, pn, rg, ds, fi, ow, po, pw, pl, qu, ou) (nI p) (nI a) := by
  have ha := hf.1
  refine ⟨1 + (4 - a), xs_nd hp (4 - a) a 1 (by omega) (fun j g1 g2 => hf.2 j g1 (by omega)) ?_⟩
  rw [show a + (4 - a) = 4 by omega]
  exact br_t (by decide) h
theorem xs_fo : ∀ d i f, i + d ≤ 8 → (∀ j, i ≤ j → j < i + d → ux_hd ds (nI (1 + j))) → wX_freeOpening_2 post ql pr ex kd ns np wo en st pp sp pc pg pn rg ds fi ow po pw pl qu ou f (nI (i + d)) → wX_freeOpening_2 post ql pr ex kd ns np wo en st pp sp pc pg pn rg ds fi ow po pw pl qu ou (f + d) (nI i) := by
  intro d
  induction d with
  | zero => intro i f _ _ h; exact h
  | succ d ih =>
    intro i f hi hj h
    refine br_f (nI_ge (b := 8) (by omega) (by decide)) ?_
    rw [ux_l_add]
    refine xa_ih1 (hj i (by omega) (by omega)) (br_f (by decide) (nm_r (nI_1 i) ?_))
    exact ih (i + 1) f (by omega) (fun j h1 h2 => hj j (by omega) (by omega)) (by rw [show i + 1 + d = i + (d + 1) by omega]; exact h)
theorem xa_fo (ho : o < 8) (h0 : ¬ ux_hd ds (nI (1 + o))) (hj : ∀ j, j < o → ux_hd ds (nI (1 + j))) (h : post (nI o)) : wpX_freeOpening post (ql, pr, ex, kd, ns, np, wo, en, st, pp, sp, pc, pg, pn, rg, ds, fi, ow, po, pw, pl, qu, ou) := by
  refine ⟨1 + o, xs_fo o 0 1 (by omega) (fun j _ h2 => hj j (by omega)) ?_⟩
  rw [Nat.zero_add]
  refine br_f (nI_ge (b := 8) (by omega) (by decide)) ?_
  rw [ux_l_add]
  exact xa_ih0 h0 (br_t rfl h)
theorem xa_fo0 (hj : ∀ j, j < 8 → ux_hd ds (nI (1 + j))) (h : post (-1)) : wpX_freeOpening post (ql, pr, ex, kd, ns, np, wo, en, st, pp, sp, pc, pg, pn, rg, ds, fi, ow, po, pw, pl, qu, ou) := by
  refine ⟨1 + 8, xs_fo 8 0 1 (by omega) (fun j _ h2 => hj j (by omega)) ?_⟩
  exact br_t (by decide) h
end UX8
