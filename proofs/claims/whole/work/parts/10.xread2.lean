section UX10
variable {ql pr : Int32} {ex : Int64} {kd ns np wo en st pp sp pc pg pn rg ds fi ow po pw pl qu ou : Nat → Int32}
variable {post : Int32 → Prop} {d a n p c k o m e s l b : Nat} {x r w : Int32}
theorem xa_ic1 (hc : c < 5) (h0 : st c ≠ 0) (hp : pp c = nI p) (h : post 1) : wpX_isChild post (ql, pr, ex, kd, ns, np, wo, en, st, pp, sp, pc, pg, pn, rg, ds, fi, ow, po, pw, pl, qu, ou) (nI c) (nI p) := by
  have cl : (nI c).toNatClampNeg = c := ux_c (by omega)
  exact ⟨vp_in_nI hc (by decide), br_f (by rw [cl]; exact h0) ⟨vp_in_nI hc (by decide), br_t (by rw [cl]; exact hp) h⟩⟩
theorem xa_ic0 (hc : c < 5) (hn : ¬ (st c ≠ 0 ∧ pp c = nI p)) (h : post 0) : wpX_isChild post (ql, pr, ex, kd, ns, np, wo, en, st, pp, sp, pc, pg, pn, rg, ds, fi, ow, po, pw, pl, qu, ou) (nI c) (nI p) := by
  have cl : (nI c).toNatClampNeg = c := ux_c (by omega)
  refine ⟨vp_in_nI hc (by decide), ?_⟩
  rw [cl]
  by_cases h0 : st c = 0
  · exact br_t h0 h
  · exact br_f h0 ⟨vp_in_nI hc (by decide), br_f (fun z => hn ⟨h0, z⟩) h⟩
theorem xs_hc : ∀ d i f, i + d ≤ 5 → (∀ j, i ≤ j → j < i + d → ¬ (st j ≠ 0 ∧ pp j = nI p)) → wX_hasChild_2 post (nI p) ql pr ex kd ns np wo en st pp sp pc pg pn rg ds fi ow po pw pl qu ou f (nI (i + d)) → wX_hasChild_2 post (nI p) ql pr ex kd ns np wo en st pp sp pc pg pn rg ds fi ow po pw pl qu ou (f + d) (nI i) := by
  intro d
  induction d with
  | zero => intro i f _ _ h; exact h
  | succ d ih =>
    intro i f hi hj h
    refine br_f (nI_ge (b := 5) (by omega) (by decide)) (xa_ic0 (by omega) (hj i (by omega) (by omega)) (br_t rfl (nm_r (nI_1 i) ?_)))
    exact ih (i + 1) f (by omega) (fun j h1 h2 => hj j (by omega) (by omega)) (by rw [show i + 1 + d = i + (d + 1) by omega]; exact h)
theorem xa_hc1 (hc : c < 5) (h0 : st c ≠ 0) (hp : pp c = nI p) (h : post 1) : wpX_hasChild post (ql, pr, ex, kd, ns, np, wo, en, st, pp, sp, pc, pg, pn, rg, ds, fi, ow, po, pw, pl, qu, ou) (nI p) := by
  rcases ux_ls (fun j => st j ≠ 0 ∧ pp j = nI p) 5 with ⟨i, hi, e, hj⟩ | hno
  · refine ⟨1 + i, xs_hc i 0 1 (by omega) (fun j _ h2 => hj j (by omega)) ?_⟩
    rw [Nat.zero_add]
    exact br_f (nI_ge (b := 5) (by omega) (by decide)) (xa_ic1 hi e.1 e.2 (br_f (by decide) h))
  · exact absurd ⟨h0, hp⟩ (hno c hc)
theorem xa_hc0 (hn : ∀ c, c < 5 → ¬ (st c ≠ 0 ∧ pp c = nI p)) (h : post 0) : wpX_hasChild post (ql, pr, ex, kd, ns, np, wo, en, st, pp, sp, pc, pg, pn, rg, ds, fi, ow, po, pw, pl, qu, ou) (nI p) := by
  refine ⟨1 + 5, xs_hc 5 0 1 (by omega) (fun j _ h2 => hn j (by omega)) ?_⟩
  exact br_t (by decide) h
theorem xs_ec : ∀ d i f, i + d ≤ 5 → (∀ j, i ≤ j → j < i + d → ¬ (st j = 3 ∧ pp j = nI p)) → wX_endedChild_2 post (nI p) ql pr ex kd ns np wo en st pp sp pc pg pn rg ds fi ow po pw pl qu ou f (nI (i + d)) → wX_endedChild_2 post (nI p) ql pr ex kd ns np wo en st pp sp pc pg pn rg ds fi ow po pw pl qu ou (f + d) (nI i) := by
  intro d
  induction d with
  | zero => intro i f _ _ h; exact h
  | succ d ih =>
    intro i f hi hj h
    have H := ih (i + 1) f (by omega) (fun j h1 h2 => hj j (by omega) (by omega)) (by rw [show i + 1 + d = i + (d + 1) by omega]; exact h)
    refine br_f (nI_ge (b := 5) (by omega) (by decide)) ?_
    by_cases hc : st i ≠ 0 ∧ pp i = nI p
    · refine xa_ic1 (by omega) hc.1 hc.2 (br_f (by decide) ⟨vp_in_nI (by omega) (by decide), br_f ?_ (nm_r (nI_1 i) H)⟩)
      rw [ux_c (by omega)]
      exact fun z => hj i (by omega) (by omega) ⟨z, hc.2⟩
    · exact xa_ic0 (by omega) hc (br_t rfl (nm_r (nI_1 i) H))
theorem xa_ec1 (hc : c < 5) (h3 : st c = 3) (hp : pp c = nI p) (hj : ∀ j, j < c → ¬ (st j = 3 ∧ pp j = nI p)) (h : post (nI c)) : wpX_endedChild post (ql, pr, ex, kd, ns, np, wo, en, st, pp, sp, pc, pg, pn, rg, ds, fi, ow, po, pw, pl, qu, ou) (nI p) := by
  refine ⟨1 + c, xs_ec c 0 1 (by omega) (fun j _ h2 => hj j (by omega)) ?_⟩
  rw [Nat.zero_add]
  refine br_f (nI_ge (b := 5) (by omega) (by decide)) (xa_ic1 hc (by rw [h3]; decide) hp (br_f (by decide) ⟨vp_in_nI (by omega) (by decide), br_t ?_ h⟩))
  rw [ux_c (by omega)]; exact h3
theorem xa_ec0 (hn : ∀ c, c < 5 → ¬ (st c = 3 ∧ pp c = nI p)) (h : post (-1)) : wpX_endedChild post (ql, pr, ex, kd, ns, np, wo, en, st, pp, sp, pc, pg, pn, rg, ds, fi, ow, po, pw, pl, qu, ou) (nI p) := by
  refine ⟨1 + 5, xs_ec 5 0 1 (by omega) (fun j _ h2 => hn j (by omega)) ?_⟩
  exact br_t (by decide) h
/-! descriptors -/
def ux_hv (ds : Nat → Int32) (p : Nat) (r w : Int32) : Prop := (∃ a, a < 4 ∧ r = nI a ∧ w = ds (p * 4 + a)) ∨ ((r < 0 ∨ (¬ r < 0 ∧ nI 4 ≤ r)) ∧ w = 0)
theorem ux_hvE (hD : ux_D ds) (hp : p < 5) (r : Int32) : ∃ w, ux_hv ds p r w ∧ ux_V w := by
  rcases ux_rg r 4 (by decide) with ⟨a, ha, e⟩ | h
  · exact ⟨_, Or.inl ⟨a, ha, e, rfl⟩, hD _ (by omega)⟩
  · exact ⟨0, Or.inr ⟨h, rfl⟩, Or.inl rfl⟩
theorem xa_ha (hp : p < 5) (hv : ux_hv ds p r w) (h : post w) : wpX_heldAt post (ql, pr, ex, kd, ns, np, wo, en, st, pp, sp, pc, pg, pn, rg, ds, fi, ow, po, pw, pl, qu, ou) (nI p) r := by
  rcases hv with ⟨a, ha, e1, e2⟩ | ⟨h1 | ⟨h1, h2⟩, e2⟩
  · rw [e1]
    rw [e2] at h
    have e : nI p * 4 + nI a = nI (p * 4 + a) := by rw [ux_mul_l, nI_add]
    exact br_f (nI_pos (by omega)) (br_t (nI_lt (b := 4) ha (by decide)) ⟨by rw [e]; exact vp_in_nI (by omega) (by decide), by rw [e, ux_c (by omega)]; exact h⟩)
  · rw [e2] at h; exact br_t h1 h
  · rw [e2] at h; exact br_f h1 (br_f (ux_hi h2) h)
theorem xa_pN (h1 : a < e ∨ e + 2 ≤ a) (ha : a < 100000) (he : e < 100000) (h : post (-1)) : wpX_pipeOf post (ql, pr, ex, kd, ns, np, wo, en, st, pp, sp, pc, pg, pn, rg, ds, fi, ow, po, pw, pl, qu, ou) (nI a) (nI e) := by
  by_cases h2 : a < e
  · exact br_t (nI_lt h2 (by omega)) h
  · refine br_f (nI_nlt (by omega) (by omega)) (br_t ?_ h)
    rw [ux_add2]; exact nI_le (by omega) (by omega)
theorem xa_pY (hk : k < 2) (he : e < 90000) (h : post (nI k)) : wpX_pipeOf post (ql, pr, ex, kd, ns, np, wo, en, st, pp, sp, pc, pg, pn, rg, ds, fi, ow, po, pw, pl, qu, ou) (nI (e + k)) (nI e) := by
  refine br_f (nI_nlt (by omega) (by omega)) (br_f ?_ ?_)
  · rw [ux_add2]; exact nI_ge (by omega) (by omega)
  · rw [ux_subN (by omega), show e + k - e = k by omega]; exact h
theorem xa_io1 (h1 : 1 ≤ a) (h2 : a ≤ 8) (h : post 1) : wpX_isOpening post (ql, pr, ex, kd, ns, np, wo, en, st, pp, sp, pc, pg, pn, rg, ds, fi, ow, po, pw, pl, qu, ou) (nI a) :=
  br_f (nI_nlt (b := 1) h1 (by omega)) (br_f (nI_ge (b := 9) (by omega) (by decide)) h)
theorem xa_io0 (h1 : a < 1 ∨ 9 ≤ a) (ha : a < 100000) (h : post 0) : wpX_isOpening post (ql, pr, ex, kd, ns, np, wo, en, st, pp, sp, pc, pg, pn, rg, ds, fi, ow, po, pw, pl, qu, ou) (nI a) := by
  by_cases h2 : a < 1
  · exact br_t (nI_lt (b := 1) h2 (by decide)) h
  · exact br_f (nI_nlt (b := 1) (by omega) (by omega)) (br_t (nI_le (a := 9) (by omega) (by omega)) h)
/-! programs -/
def ux_ip (sp pn : Nat → Int32) (p s l : Nat) : Prop := s < l ∧ l ≤ 20 ∧ sp p = nI s ∧ pn p = nI l
def ux_up (sp pn : Nat → Int32) (p l : Nat) : Prop := l ≤ 20 ∧ pn p = nI l ∧ (sp p < 0 ∨ (¬ sp p < 0 ∧ nI l ≤ sp p))
theorem ux_ipup (hl : l ≤ 20) (h : pn p = nI l) : (∃ s, ux_ip sp pn p s l) ∨ ux_up sp pn p l := by
  rcases ux_rg (sp p) l (by omega) with ⟨s, hs, e⟩ | h2
  · exact Or.inl ⟨s, hs, hl, e, h⟩
  · exact Or.inr ⟨hl, h, h2⟩
theorem xa_ip1 (hp : p < 5) (hi : ux_ip sp pn p s l) (h : post 1) : wpX_isInProgram post (ql, pr, ex, kd, ns, np, wo, en, st, pp, sp, pc, pg, pn, rg, ds, fi, ow, po, pw, pl, qu, ou) (nI p) := by
  obtain ⟨h1, h2, h3, h4⟩ := hi
  have cl : (nI p).toNatClampNeg = p := ux_c (by omega)
  have iv : vp_in (nI p) 5 := vp_in_nI hp (by decide)
  refine ⟨iv, ?_⟩
  rw [cl, h3, h4]
  exact br_f (nI_pos (by omega)) ⟨iv, iv, br_f (nI_ge h1 (by omega)) h⟩
theorem xa_ip0 (hp : p < 5) (hi : ux_up sp pn p l) (h : post 0) : wpX_isInProgram post (ql, pr, ex, kd, ns, np, wo, en, st, pp, sp, pc, pg, pn, rg, ds, fi, ow, po, pw, pl, qu, ou) (nI p) := by
  obtain ⟨h1, h2, h3⟩ := hi
  have cl : (nI p).toNatClampNeg = p := ux_c (by omega)
  have iv : vp_in (nI p) 5 := vp_in_nI hp (by decide)
  refine ⟨iv, ?_⟩
  rw [cl, h2]
  rcases h3 with h3 | ⟨h3, h4⟩
  · exact br_t h3 h
  · exact br_f h3 ⟨iv, iv, br_t h4 h⟩
/-! alive -/
theorem xa_al1 (hp : p < 5) (hs : st p = 1 ∨ st p = 2) (h : post 1) : wpX_isAlive post (ql, pr, ex, kd, ns, np, wo, en, st, pp, sp, pc, pg, pn, rg, ds, fi, ow, po, pw, pl, qu, ou) (nI p) := by
  have cl : (nI p).toNatClampNeg = p := ux_c (by omega)
  have iv : vp_in (nI p) 5 := vp_in_nI hp (by decide)
  refine br_f (nI_pos (by omega)) (br_f (nI_ge (b := 5) (by omega) (by decide)) ⟨iv, ?_⟩)
  rw [cl]
  rcases hs with h1 | h1
  · exact br_t h1 h
  · exact br_f (by rw [h1]; decide) ⟨iv, br_t h1 h⟩
theorem xa_al0 (hp : p < 5) (h1 : st p ≠ 1) (h2 : st p ≠ 2) (h : post 0) : wpX_isAlive post (ql, pr, ex, kd, ns, np, wo, en, st, pp, sp, pc, pg, pn, rg, ds, fi, ow, po, pw, pl, qu, ou) (nI p) := by
  have cl : (nI p).toNatClampNeg = p := ux_c (by omega)
  have iv : vp_in (nI p) 5 := vp_in_nI hp (by decide)
  refine br_f (nI_pos (by omega)) (br_f (nI_ge (b := 5) (by omega) (by decide)) ⟨iv, ?_⟩)
  rw [cl]
  exact br_f h1 ⟨iv, br_f h2 h⟩
theorem xa_alO (hr : r < 0 ∨ (¬ r < 0 ∧ nI 5 ≤ r)) (h : post 0) : wpX_isAlive post (ql, pr, ex, kd, ns, np, wo, en, st, pp, sp, pc, pg, pn, rg, ds, fi, ow, po, pw, pl, qu, ou) r := by
  rcases hr with h1 | ⟨h1, h2⟩
  · exact br_t h1 h
  · exact br_f h1 (br_t h2 h)
theorem xs_pl : ∀ d i f, i + d ≤ 5 → (∀ j, i ≤ j → j < i + d → ¬ ((st j = 1 ∨ st j = 2) ∧ pc j = w)) → wX_isPlace_2 post w ql pr ex kd ns np wo en st pp sp pc pg pn rg ds fi ow po pw pl qu ou f (nI (i + d)) → wX_isPlace_2 post w ql pr ex kd ns np wo en st pp sp pc pg pn rg ds fi ow po pw pl qu ou (f + d) (nI i) := by
  intro d
  induction d with
  | zero => intro i f _ _ h; exact h
  | succ d ih =>
    intro i f hi hj h
    have H := ih (i + 1) f (by omega) (fun j h1 h2 => hj j (by omega) (by omega)) (by rw [show i + 1 + d = i + (d + 1) by omega]; exact h)
    refine br_f (nI_ge (b := 5) (by omega) (by decide)) ?_
    by_cases hs : st i = 1 ∨ st i = 2
    · refine xa_al1 (by omega) hs (br_f (by decide) ⟨vp_in_nI (by omega) (by decide), br_f ?_ (nm_r (nI_1 i) H)⟩)
      rw [ux_c (by omega)]
      exact fun z => hj i (by omega) (by omega) ⟨hs, z⟩
    · exact xa_al0 (by omega) (fun z => hs (Or.inl z)) (fun z => hs (Or.inr z)) (br_t rfl (nm_r (nI_1 i) H))
theorem xa_pl1 (hh : ∃ j, j < 5 ∧ (st j = 1 ∨ st j = 2) ∧ pc j = w) (h : post 1) : wpX_isPlace post (ql, pr, ex, kd, ns, np, wo, en, st, pp, sp, pc, pg, pn, rg, ds, fi, ow, po, pw, pl, qu, ou) w := by
  rcases ux_ls (fun j => (st j = 1 ∨ st j = 2) ∧ pc j = w) 5 with ⟨i, hi, e, hj⟩ | hno
  · refine ⟨1 + i, xs_pl i 0 1 (by omega) (fun j _ h2 => hj j (by omega)) ?_⟩
    rw [Nat.zero_add]
    exact br_f (nI_ge (b := 5) (by omega) (by decide)) (xa_al1 hi e.1 (br_f (by decide) ⟨vp_in_nI (by omega) (by decide), br_t (by rw [ux_c (by omega)]; exact e.2) h⟩))
  · obtain ⟨j, hj, e⟩ := hh
    exact absurd e (hno j hj)
theorem xa_pl0 (hh : ∀ j, j < 5 → ¬ ((st j = 1 ∨ st j = 2) ∧ pc j = w)) (h : post 0) : wpX_isPlace post (ql, pr, ex, kd, ns, np, wo, en, st, pp, sp, pc, pg, pn, rg, ds, fi, ow, po, pw, pl, qu, ou) w := by
  refine ⟨1 + 5, xs_pl 5 0 1 (by omega) (fun j _ h2 => hh j (by omega)) ?_⟩
  exact br_t (by decide) h
/-! entering -/
/-- what can be entered: a name a that names nothing in d, with fewer than 6 entries there -/
def ux_ce (ns en : Nat → Int32) (d : Nat) (r : Int32) (a c : Nat) : Prop := a < 15 ∧ r = nI a ∧ ns d = nI c ∧ c < 6 ∧ en (d * 15 + a) = 0
def ux_cn0 (ns en : Nat → Int32) (d : Nat) (r : Int32) : Prop := (r < 0 ∨ (¬ r < 0 ∧ nI 15 ≤ r)) ∨ ∃ a, a < 15 ∧ r = nI a ∧ ((∃ c, 6 ≤ c ∧ c < 100 ∧ ns d = nI c) ∨ ((∃ c, c < 6 ∧ ns d = nI c) ∧ en (d * 15 + a) ≠ 0))
theorem xa_ce1 (hd : d < 10) (hc : ux_ce ns en d r a c) (h : post 1) : wpX_canEnter post (ql, pr, ex, kd, ns, np, wo, en, st, pp, sp, pc, pg, pn, rg, ds, fi, ow, po, pw, pl, qu, ou) (nI d) r := by
  obtain ⟨h1, h2, h3, h4, h5⟩ := hc
  have e : nI d * 15 + nI a = nI (d * 15 + a) := by rw [ux_mul_l, nI_add]
  rw [h2]
  refine br_f (nI_pos (by omega)) (br_f (nI_ge (b := 15) h1 (by decide)) ⟨vp_in_nI hd (by decide), ?_⟩)
  rw [ux_c (by omega), h3]
  refine br_f (nI_ge (b := 6) h4 (by decide)) ⟨by rw [e]; exact vp_in_nI (by omega) (by decide), br_t ?_ h⟩
  rw [e, ux_c (by omega)]; exact h5
theorem xa_ce0 (hd : d < 10) (hc : ux_cn0 ns en d r) (h : post 0) : wpX_canEnter post (ql, pr, ex, kd, ns, np, wo, en, st, pp, sp, pc, pg, pn, rg, ds, fi, ow, po, pw, pl, qu, ou) (nI d) r := by
  rcases hc with (h1 | ⟨h1, h2⟩) | ⟨a, h1, h2, h3⟩
  · exact br_t h1 h
  · exact br_f h1 (br_t h2 h)
  · have e : nI d * 15 + nI a = nI (d * 15 + a) := by rw [ux_mul_l, nI_add]
    rw [h2]
    refine br_f (nI_pos (by omega)) (br_f (nI_ge (b := 15) h1 (by decide)) ⟨vp_in_nI hd (by decide), ?_⟩)
    rw [ux_c (by omega)]
    rcases h3 with ⟨c, c1, c2, c3⟩ | ⟨⟨c, c1, c2⟩, c3⟩
    · rw [c3]; exact br_t (nI_le (a := 6) c1 (by omega)) h
    · rw [c2]
      refine br_f (nI_ge (b := 6) c1 (by decide)) ⟨by rw [e]; exact vp_in_nI (by omega) (by decide), br_f ?_ h⟩
      rw [e, ux_c (by omega)]; exact c3
/-! lost files -/
theorem xs_ie (hn : n < 10) : ∀ d i f, i + d ≤ 150 → (∀ j, i ≤ j → j < i + d → en j ≠ w) → wX_isEntered_2 post w ql pr ex kd ns np wo en st pp sp pc pg pn rg ds fi ow po pw pl qu ou f (nI (i + d)) → wX_isEntered_2 post w ql pr ex kd ns np wo en st pp sp pc pg pn rg ds fi ow po pw pl qu ou (f + d) (nI i) := by
  intro d
  induction d with
  | zero => intro i f _ _ h; exact h
  | succ d ih =>
    intro i f hi hj h
    refine br_f (nI_ge (b := 150) (by omega) (by decide)) ⟨vp_in_nI (by omega) (by decide), br_f (by rw [ux_c (by omega)]; exact hj i (by omega) (by omega)) (nm_r (nI_1 i) ?_)⟩
    exact ih (i + 1) f (by omega) (fun j h1 h2 => hj j (by omega) (by omega)) (by rw [show i + 1 + d = i + (d + 1) by omega]; exact h)
theorem xa_ie1 (hh : ∃ j, j < 150 ∧ en j = w) (h : post 1) : wpX_isEntered post (ql, pr, ex, kd, ns, np, wo, en, st, pp, sp, pc, pg, pn, rg, ds, fi, ow, po, pw, pl, qu, ou) w := by
  rcases ux_ls (fun j => en j = w) 150 with ⟨i, hi, e, hj⟩ | hno
  · refine ⟨1 + i, xs_ie (n := 0) (by omega) i 0 1 (by omega) (fun j _ h2 => hj j (by omega)) ?_⟩
    rw [Nat.zero_add]
    exact br_f (nI_ge (b := 150) (by omega) (by decide)) ⟨vp_in_nI (by omega) (by decide), br_t (by rw [ux_c (by omega)]; exact e) h⟩
  · obtain ⟨j, hj, e⟩ := hh
    exact absurd e (hno j hj)
theorem xa_ie0 (hh : ¬ ∃ j, j < 150 ∧ en j = w) (h : post 0) : wpX_isEntered post (ql, pr, ex, kd, ns, np, wo, en, st, pp, sp, pc, pg, pn, rg, ds, fi, ow, po, pw, pl, qu, ou) w := by
  refine ⟨1 + 150, xs_ie (n := 0) (by omega) 150 0 1 (by omega) (fun j _ h2 e => hh ⟨j, by omega, e⟩) ?_⟩
  exact br_t (by decide) h
/-- cell j holds an opening whose file is w -/
def ux_oq (ds fi : Nat → Int32) (w : Int32) (j : Nat) : Prop := ∃ o, o < 8 ∧ ds j = nI (1 + o) ∧ fi o = w
theorem ux_Vo (h : ux_V x) : (∃ o, o < 8 ∧ x = nI (1 + o)) ∨ ∃ a, x = nI a ∧ (a < 1 ∨ 9 ≤ a) ∧ a < 100000 := by
  rcases h with h | h | ⟨k, hk, h⟩ | ⟨k, hk, h⟩
  · exact Or.inr ⟨0, h, by omega, by omega⟩
  · exact Or.inl h
  · exact Or.inr ⟨4096 + k, h, by omega, by omega⟩
  · exact Or.inr ⟨8192 + k, h, by omega, by omega⟩
theorem xs_io (hD : ux_D ds) : ∀ d i f, i + d ≤ 20 → (∀ j, i ≤ j → j < i + d → ¬ ux_oq ds fi w j) → wX_isOpened_2 post w ql pr ex kd ns np wo en st pp sp pc pg pn rg ds fi ow po pw pl qu ou f (nI (i + d)) → wX_isOpened_2 post w ql pr ex kd ns np wo en st pp sp pc pg pn rg ds fi ow po pw pl qu ou (f + d) (nI i) := by
  intro d
  induction d with
  | zero => intro i f _ _ h; exact h
  | succ d ih =>
    intro i f hi hj h
    have H := ih (i + 1) f (by omega) (fun j h1 h2 => hj j (by omega) (by omega)) (by rw [show i + 1 + d = i + (d + 1) by omega]; exact h)
    refine br_f (nI_ge (b := 20) (by omega) (by decide)) ⟨vp_in_nI (by omega) (by decide), ?_⟩
    rw [ux_c (by omega)]
    rcases ux_Vo (hD i (by omega)) with ⟨o, ho, e⟩ | ⟨a, e, ha, hb⟩
    · have hq := hj i (by omega) (by omega)
      rw [e]
      refine xa_io1 (by omega) (by omega) (br_f (by decide) ⟨vp_in_nI (by omega) (by decide), ?_⟩)
      rw [ux_so, ux_c (by omega)]
      exact ⟨vp_in_nI ho (by decide), br_f (fun z => hq ⟨o, ho, e, z⟩) (nm_r (nI_1 i) H)⟩
    · rw [e]
      exact xa_io0 ha hb (br_t rfl (nm_r (nI_1 i) H))
theorem xa_iO1 (hD : ux_D ds) (hh : ∃ j, j < 20 ∧ ux_oq ds fi w j) (h : post 1) : wpX_isOpened post (ql, pr, ex, kd, ns, np, wo, en, st, pp, sp, pc, pg, pn, rg, ds, fi, ow, po, pw, pl, qu, ou) w := by
  rcases ux_ls (fun j => ux_oq ds fi w j) 20 with ⟨i, hi, ⟨o, ho, e1, e2⟩, hj⟩ | hno
  · refine ⟨1 + i, xs_io hD i 0 1 (by omega) (fun j _ h2 => hj j (by omega)) ?_⟩
    rw [Nat.zero_add]
    refine br_f (nI_ge (b := 20) (by omega) (by decide)) ⟨vp_in_nI (by omega) (by decide), ?_⟩
    rw [ux_c (by omega), e1]
    refine xa_io1 (by omega) (by omega) (br_f (by decide) ⟨vp_in_nI (by omega) (by decide), ?_⟩)
    rw [ux_so, ux_c (by omega)]
    exact ⟨vp_in_nI ho (by decide), br_t e2 h⟩
  · obtain ⟨j, hj, e⟩ := hh
    exact absurd e (hno j hj)
theorem xa_iO0 (hD : ux_D ds) (hh : ¬ ∃ j, j < 20 ∧ ux_oq ds fi w j) (h : post 0) : wpX_isOpened post (ql, pr, ex, kd, ns, np, wo, en, st, pp, sp, pc, pg, pn, rg, ds, fi, ow, po, pw, pl, qu, ou) w := by
  refine ⟨1 + 20, xs_io hD 20 0 1 (by omega) (fun j _ h2 e => hh ⟨j, by omega, e⟩) ?_⟩
  exact br_t (by decide) h
end UX10
