section UX15X
variable {ql pr : Int32} {ex : Int64} {kd ns np wo en st pp sp pc pg pn rg ds fi ow po pw pl qu ou : Nat → Int32}
variable {p s l a b : Nat} {x : Int32}
/-- p stands at its word s; the word's op is x, its registers a and b -/
def ux_in (sp pn pg : Nat → Int32) (p s l a b : Nat) (x : Int32) : Prop := p < 5 ∧ ux_ip sp pn p s l ∧ pg (p * 20 + s) &&& 31 = x ∧ a < 4 ∧ (pg (p * 20 + s) >>> ((5 : Int32) &&& 31)) &&& 3 = nI a ∧ b < 4 ∧ (pg (p * 20 + s) >>> ((7 : Int32) &&& 31)) &&& 3 = nI b
def xk (post : Int32 → SX → Prop) (p : Nat) (x : Int32) (u : SX) : Prop := match u with
  | (ql, pr, ex, kd, ns, np, wo, en, st, pp, sp, pc, pg, pn, rg, ds, fi, ow, po, pw, pl, qu, ou) => wX_execute_634 post (nI p) x ql pr ex kd ns np wo en st pp sp pc pg pn rg ds fi ow po pw pl qu ou
def xk3 (post : Int32 → SX → Prop) (p : Nat) (x r : Int32) (u : SX) : Prop := match u with
  | (ql, pr, ex, kd, ns, np, wo, en, st, pp, sp, pc, pg, pn, rg, ds, fi, ow, po, pw, pl, qu, ou) => wX_execute_634 post (nI p) x ql pr ex kd ns np wo en st pp sp pc pg pn (upd rg (p * 4 + 3) r) ds fi ow po pw pl qu ou
theorem x634a {post : Int32 → SX → Prop} (hp : p < 5) (hs : st p = 1) (hx : ¬ x = 25) (h : post 1 (ql, pr, ex, kd, ns, np, wo, en, st, pp, sp, pc, pg, pn, rg, ds, fi, ow, po, pw, pl, qu, ou)) : wX_execute_634 post (nI p) x ql pr ex kd ns np wo en st pp sp pc pg pn rg ds fi ow po pw pl qu ou := by
  unfold wX_execute_634
  rw [ux_c (by omega)]
  exact ⟨vp_in_nI hp (by decide), br_t hs (br_f hx h)⟩
theorem x634y {post : Int32 → SX → Prop} (hp : p < 5) (hs : st p = 1) (h : post 0 (ql, pr, ex, kd, ns, np, wo, en, st, pp, sp, pc, pg, pn, rg, ds, fi, ow, po, pw, pl, qu, ou)) : wX_execute_634 post (nI p) 25 ql pr ex kd ns np wo en st pp sp pc pg pn rg ds fi ow po pw pl qu ou := by
  unfold wX_execute_634
  rw [ux_c (by omega)]
  exact ⟨vp_in_nI hp (by decide), br_t hs (br_t rfl h)⟩
theorem x634e {post : Int32 → SX → Prop} (hp : p < 5) (hs : st p ≠ 1) (h : post 0 (ql, pr, ex, kd, ns, np, wo, en, st, pp, sp, pc, pg, pn, rg, ds, fi, ow, po, pw, pl, qu, ou)) : wX_execute_634 post (nI p) x ql pr ex kd ns np wo en st pp sp pc pg pn rg ds fi ow po pw pl qu ou := by
  unfold wX_execute_634
  rw [ux_c (by omega)]
  exact ⟨vp_in_nI hp (by decide), br_f hs h⟩

theorem xj_0 {post : Int32 → SX → Prop} (H : ux_in sp pn pg p s l a b 0) (h : ∀ Q : SX → Prop, (∀ u, xk post p 0 u → Q u) → wpX_endProcess Q (ql, pr, ex, kd, ns, np, wo, en, st, pp, upd sp p (sp p + 1), pc, pg, pn, rg, ds, fi, ow, po, pw, pl, qu, ou) (nI p) (rg (p * 4 + a))) : wpX_execute post (ql, pr, ex, kd, ns, np, wo, en, st, pp, sp, pc, pg, pn, rg, ds, fi, ow, po, pw, pl, qu, ou) (nI p) := by
  obtain ⟨hp, hi, ho, ha, ea, hb, eb⟩ := H
  obtain ⟨h1, h2, h3, h4⟩ := id hi
  have cl : (nI p).toNatClampNeg = p := ux_c (by omega)
  have iv : vp_in (nI p) 5 := vp_in_nI hp (by decide)
  have e20 : nI p * 20 + sp p = nI (p * 20 + s) := by rw [h3, ux_mul_l, nI_add]
  have ea4 : nI p * 4 + ((pg (p * 20 + s) >>> ((5 : Int32) &&& 31)) &&& 3) = nI (p * 4 + a) := by rw [ea, ux_mul_l, nI_add]
  have eb4 : nI p * 4 + ((pg (p * 20 + s) >>> ((7 : Int32) &&& 31)) &&& 3) = nI (p * 4 + b) := by rw [eb, ux_mul_l, nI_add]
  have e34 : nI p * 4 + 3 = nI (p * 4 + 3) := by rw [ux_mul_l, ux_add_l]
  have ca : (nI (p * 4 + a)).toNatClampNeg = p * 4 + a := ux_c (by omega)
  have cb : (nI (p * 4 + b)).toNatClampNeg = p * 4 + b := ux_c (by omega)
  have c3 : (nI (p * 4 + 3)).toNatClampNeg = p * 4 + 3 := ux_c (by omega)
  have va : vp_in (nI (p * 4 + a)) 20 := vp_in_nI (by omega) (by decide)
  have vb : vp_in (nI (p * 4 + b)) 20 := vp_in_nI (by omega) (by decide)
  have v3 : vp_in (nI (p * 4 + 3)) 20 := vp_in_nI (by omega) (by decide)
  unfold wpX_execute
  refine xa_ip1 hp hi (br_f (by decide) ⟨iv, ?_⟩)
  rw [cl, e20, ux_c (n := p * 20 + s) (by omega)]
  refine ⟨vp_in_nI (by omega) (by decide), nm_e (nm_r ho (nm_r ea4 (nm_r eb4 (nm_r e34 (nm_e ⟨iv, iv, nm_e (br_f (by decide) <| br_f (by decide) <| br_t rfl <| ?_)⟩)))))⟩
  rw [ca]
  refine ⟨va, ?_⟩
  exact h _ (fun u hu => hu)
theorem xj_10 {post : Int32 → SX → Prop} (H : ux_in sp pn pg p s l a b 10) (h : ∀ Q : SX → Prop, (∀ u, xk post p 10 u → Q u) → wpX_fork Q (ql, pr, ex, kd, ns, np, wo, en, st, pp, upd sp p (sp p + 1), pc, pg, pn, rg, ds, fi, ow, po, pw, pl, qu, ou) (nI p) (nI (p * 4 + a))) : wpX_execute post (ql, pr, ex, kd, ns, np, wo, en, st, pp, sp, pc, pg, pn, rg, ds, fi, ow, po, pw, pl, qu, ou) (nI p) := by
  obtain ⟨hp, hi, ho, ha, ea, hb, eb⟩ := H
  obtain ⟨h1, h2, h3, h4⟩ := id hi
  have cl : (nI p).toNatClampNeg = p := ux_c (by omega)
  have iv : vp_in (nI p) 5 := vp_in_nI hp (by decide)
  have e20 : nI p * 20 + sp p = nI (p * 20 + s) := by rw [h3, ux_mul_l, nI_add]
  have ea4 : nI p * 4 + ((pg (p * 20 + s) >>> ((5 : Int32) &&& 31)) &&& 3) = nI (p * 4 + a) := by rw [ea, ux_mul_l, nI_add]
  have eb4 : nI p * 4 + ((pg (p * 20 + s) >>> ((7 : Int32) &&& 31)) &&& 3) = nI (p * 4 + b) := by rw [eb, ux_mul_l, nI_add]
  have e34 : nI p * 4 + 3 = nI (p * 4 + 3) := by rw [ux_mul_l, ux_add_l]
  have ca : (nI (p * 4 + a)).toNatClampNeg = p * 4 + a := ux_c (by omega)
  have cb : (nI (p * 4 + b)).toNatClampNeg = p * 4 + b := ux_c (by omega)
  have c3 : (nI (p * 4 + 3)).toNatClampNeg = p * 4 + 3 := ux_c (by omega)
  have va : vp_in (nI (p * 4 + a)) 20 := vp_in_nI (by omega) (by decide)
  have vb : vp_in (nI (p * 4 + b)) 20 := vp_in_nI (by omega) (by decide)
  have v3 : vp_in (nI (p * 4 + 3)) 20 := vp_in_nI (by omega) (by decide)
  unfold wpX_execute
  refine xa_ip1 hp hi (br_f (by decide) ⟨iv, ?_⟩)
  rw [cl, e20, ux_c (n := p * 20 + s) (by omega)]
  refine ⟨vp_in_nI (by omega) (by decide), nm_e (nm_r ho (nm_r ea4 (nm_r eb4 (nm_r e34 (nm_e ⟨iv, iv, nm_e (br_f (by decide) <| br_f (by decide) <| br_f (by decide) <| br_f (by decide) <| br_f (by decide) <| br_f (by decide) <| br_f (by decide) <| br_f (by decide) <| br_f (by decide) <| br_f (by decide) <| br_f (by decide) <| br_f (by decide) <| br_t rfl <| ?_)⟩)))))⟩
  refine ?_
  exact h _ (fun u hu => hu)
theorem xj_11 {post : Int32 → SX → Prop} (H : ux_in sp pn pg p s l a b 11) (h : ∀ Q : SX → Prop, (∀ u, xk post p 11 u → Q u) → wpX_takeEndedChild Q (ql, pr, ex, kd, ns, np, wo, en, st, pp, upd sp p (sp p + 1), pc, pg, pn, rg, ds, fi, ow, po, pw, pl, qu, ou) (nI p) (nI (p * 4 + a)) (nI (p * 4 + b))) : wpX_execute post (ql, pr, ex, kd, ns, np, wo, en, st, pp, sp, pc, pg, pn, rg, ds, fi, ow, po, pw, pl, qu, ou) (nI p) := by
  obtain ⟨hp, hi, ho, ha, ea, hb, eb⟩ := H
  obtain ⟨h1, h2, h3, h4⟩ := id hi
  have cl : (nI p).toNatClampNeg = p := ux_c (by omega)
  have iv : vp_in (nI p) 5 := vp_in_nI hp (by decide)
  have e20 : nI p * 20 + sp p = nI (p * 20 + s) := by rw [h3, ux_mul_l, nI_add]
  have ea4 : nI p * 4 + ((pg (p * 20 + s) >>> ((5 : Int32) &&& 31)) &&& 3) = nI (p * 4 + a) := by rw [ea, ux_mul_l, nI_add]
  have eb4 : nI p * 4 + ((pg (p * 20 + s) >>> ((7 : Int32) &&& 31)) &&& 3) = nI (p * 4 + b) := by rw [eb, ux_mul_l, nI_add]
  have e34 : nI p * 4 + 3 = nI (p * 4 + 3) := by rw [ux_mul_l, ux_add_l]
  have ca : (nI (p * 4 + a)).toNatClampNeg = p * 4 + a := ux_c (by omega)
  have cb : (nI (p * 4 + b)).toNatClampNeg = p * 4 + b := ux_c (by omega)
  have c3 : (nI (p * 4 + 3)).toNatClampNeg = p * 4 + 3 := ux_c (by omega)
  have va : vp_in (nI (p * 4 + a)) 20 := vp_in_nI (by omega) (by decide)
  have vb : vp_in (nI (p * 4 + b)) 20 := vp_in_nI (by omega) (by decide)
  have v3 : vp_in (nI (p * 4 + 3)) 20 := vp_in_nI (by omega) (by decide)
  unfold wpX_execute
  refine xa_ip1 hp hi (br_f (by decide) ⟨iv, ?_⟩)
  rw [cl, e20, ux_c (n := p * 20 + s) (by omega)]
  refine ⟨vp_in_nI (by omega) (by decide), nm_e (nm_r ho (nm_r ea4 (nm_r eb4 (nm_r e34 (nm_e ⟨iv, iv, nm_e (br_f (by decide) <| br_f (by decide) <| br_f (by decide) <| br_f (by decide) <| br_f (by decide) <| br_f (by decide) <| br_f (by decide) <| br_f (by decide) <| br_f (by decide) <| br_f (by decide) <| br_f (by decide) <| br_f (by decide) <| br_f (by decide) <| br_t rfl <| ?_)⟩)))))⟩
  refine ?_
  exact h _ (fun u hu => hu)
theorem xj_12 {post : Int32 → SX → Prop} (H : ux_in sp pn pg p s l a b 12) (h : ∀ Q : SX → Prop, (∀ u, xk post p 12 u → Q u) → wpX_executeFile Q (ql, pr, ex, kd, ns, np, wo, en, st, pp, upd sp p (sp p + 1), pc, pg, pn, rg, ds, fi, ow, po, pw, pl, qu, ou) (nI p) (rg (p * 4 + a))) : wpX_execute post (ql, pr, ex, kd, ns, np, wo, en, st, pp, sp, pc, pg, pn, rg, ds, fi, ow, po, pw, pl, qu, ou) (nI p) := by
  obtain ⟨hp, hi, ho, ha, ea, hb, eb⟩ := H
  obtain ⟨h1, h2, h3, h4⟩ := id hi
  have cl : (nI p).toNatClampNeg = p := ux_c (by omega)
  have iv : vp_in (nI p) 5 := vp_in_nI hp (by decide)
  have e20 : nI p * 20 + sp p = nI (p * 20 + s) := by rw [h3, ux_mul_l, nI_add]
  have ea4 : nI p * 4 + ((pg (p * 20 + s) >>> ((5 : Int32) &&& 31)) &&& 3) = nI (p * 4 + a) := by rw [ea, ux_mul_l, nI_add]
  have eb4 : nI p * 4 + ((pg (p * 20 + s) >>> ((7 : Int32) &&& 31)) &&& 3) = nI (p * 4 + b) := by rw [eb, ux_mul_l, nI_add]
  have e34 : nI p * 4 + 3 = nI (p * 4 + 3) := by rw [ux_mul_l, ux_add_l]
  have ca : (nI (p * 4 + a)).toNatClampNeg = p * 4 + a := ux_c (by omega)
  have cb : (nI (p * 4 + b)).toNatClampNeg = p * 4 + b := ux_c (by omega)
  have c3 : (nI (p * 4 + 3)).toNatClampNeg = p * 4 + 3 := ux_c (by omega)
  have va : vp_in (nI (p * 4 + a)) 20 := vp_in_nI (by omega) (by decide)
  have vb : vp_in (nI (p * 4 + b)) 20 := vp_in_nI (by omega) (by decide)
  have v3 : vp_in (nI (p * 4 + 3)) 20 := vp_in_nI (by omega) (by decide)
  unfold wpX_execute
  refine xa_ip1 hp hi (br_f (by decide) ⟨iv, ?_⟩)
  rw [cl, e20, ux_c (n := p * 20 + s) (by omega)]
  refine ⟨vp_in_nI (by omega) (by decide), nm_e (nm_r ho (nm_r ea4 (nm_r eb4 (nm_r e34 (nm_e ⟨iv, iv, nm_e (br_f (by decide) <| br_f (by decide) <| br_f (by decide) <| br_f (by decide) <| br_f (by decide) <| br_f (by decide) <| br_f (by decide) <| br_f (by decide) <| br_f (by decide) <| br_f (by decide) <| br_f (by decide) <| br_f (by decide) <| br_f (by decide) <| br_f (by decide) <| br_t rfl <| ?_)⟩)))))⟩
  rw [ca]
  refine ⟨va, ?_⟩
  exact h _ (fun u hu => hu)
theorem xj_13 {post : Int32 → SX → Prop} (H : ux_in sp pn pg p s l a b 13) (h : ∀ Q : SX → Prop, (∀ u, xk post p 13 u → Q u) → wpX_open Q (ql, pr, ex, kd, ns, np, wo, en, st, pp, upd sp p (sp p + 1), pc, pg, pn, rg, ds, fi, ow, po, pw, pl, qu, ou) (nI p) (nI (p * 4 + a)) ((pg (p * 20 + s) >>> ((9 : Int32) &&& 31)) &&& 3)) : wpX_execute post (ql, pr, ex, kd, ns, np, wo, en, st, pp, sp, pc, pg, pn, rg, ds, fi, ow, po, pw, pl, qu, ou) (nI p) := by
  obtain ⟨hp, hi, ho, ha, ea, hb, eb⟩ := H
  obtain ⟨h1, h2, h3, h4⟩ := id hi
  have cl : (nI p).toNatClampNeg = p := ux_c (by omega)
  have iv : vp_in (nI p) 5 := vp_in_nI hp (by decide)
  have e20 : nI p * 20 + sp p = nI (p * 20 + s) := by rw [h3, ux_mul_l, nI_add]
  have ea4 : nI p * 4 + ((pg (p * 20 + s) >>> ((5 : Int32) &&& 31)) &&& 3) = nI (p * 4 + a) := by rw [ea, ux_mul_l, nI_add]
  have eb4 : nI p * 4 + ((pg (p * 20 + s) >>> ((7 : Int32) &&& 31)) &&& 3) = nI (p * 4 + b) := by rw [eb, ux_mul_l, nI_add]
  have e34 : nI p * 4 + 3 = nI (p * 4 + 3) := by rw [ux_mul_l, ux_add_l]
  have ca : (nI (p * 4 + a)).toNatClampNeg = p * 4 + a := ux_c (by omega)
  have cb : (nI (p * 4 + b)).toNatClampNeg = p * 4 + b := ux_c (by omega)
  have c3 : (nI (p * 4 + 3)).toNatClampNeg = p * 4 + 3 := ux_c (by omega)
  have va : vp_in (nI (p * 4 + a)) 20 := vp_in_nI (by omega) (by decide)
  have vb : vp_in (nI (p * 4 + b)) 20 := vp_in_nI (by omega) (by decide)
  have v3 : vp_in (nI (p * 4 + 3)) 20 := vp_in_nI (by omega) (by decide)
  unfold wpX_execute
  refine xa_ip1 hp hi (br_f (by decide) ⟨iv, ?_⟩)
  rw [cl, e20, ux_c (n := p * 20 + s) (by omega)]
  refine ⟨vp_in_nI (by omega) (by decide), nm_e (nm_r ho (nm_r ea4 (nm_r eb4 (nm_r e34 (nm_e ⟨iv, iv, nm_e (br_f (by decide) <| br_f (by decide) <| br_f (by decide) <| br_f (by decide) <| br_f (by decide) <| br_f (by decide) <| br_f (by decide) <| br_f (by decide) <| br_f (by decide) <| br_f (by decide) <| br_f (by decide) <| br_f (by decide) <| br_f (by decide) <| br_f (by decide) <| br_f (by decide) <| br_t rfl <| ?_)⟩)))))⟩
  refine ?_
  exact h _ (fun u hu => hu)
theorem xj_15 {post : Int32 → SX → Prop} (H : ux_in sp pn pg p s l a b 15) (h : ∀ Q : SX → Prop, (∀ u, xk post p 15 u → Q u) → wpX_read Q (ql, pr, ex, kd, ns, np, wo, en, st, pp, upd sp p (sp p + 1), pc, pg, pn, rg, ds, fi, ow, po, pw, pl, qu, ou) (nI p) (nI (p * 4 + a)) (nI (p * 4 + b))) : wpX_execute post (ql, pr, ex, kd, ns, np, wo, en, st, pp, sp, pc, pg, pn, rg, ds, fi, ow, po, pw, pl, qu, ou) (nI p) := by
  obtain ⟨hp, hi, ho, ha, ea, hb, eb⟩ := H
  obtain ⟨h1, h2, h3, h4⟩ := id hi
  have cl : (nI p).toNatClampNeg = p := ux_c (by omega)
  have iv : vp_in (nI p) 5 := vp_in_nI hp (by decide)
  have e20 : nI p * 20 + sp p = nI (p * 20 + s) := by rw [h3, ux_mul_l, nI_add]
  have ea4 : nI p * 4 + ((pg (p * 20 + s) >>> ((5 : Int32) &&& 31)) &&& 3) = nI (p * 4 + a) := by rw [ea, ux_mul_l, nI_add]
  have eb4 : nI p * 4 + ((pg (p * 20 + s) >>> ((7 : Int32) &&& 31)) &&& 3) = nI (p * 4 + b) := by rw [eb, ux_mul_l, nI_add]
  have e34 : nI p * 4 + 3 = nI (p * 4 + 3) := by rw [ux_mul_l, ux_add_l]
  have ca : (nI (p * 4 + a)).toNatClampNeg = p * 4 + a := ux_c (by omega)
  have cb : (nI (p * 4 + b)).toNatClampNeg = p * 4 + b := ux_c (by omega)
  have c3 : (nI (p * 4 + 3)).toNatClampNeg = p * 4 + 3 := ux_c (by omega)
  have va : vp_in (nI (p * 4 + a)) 20 := vp_in_nI (by omega) (by decide)
  have vb : vp_in (nI (p * 4 + b)) 20 := vp_in_nI (by omega) (by decide)
  have v3 : vp_in (nI (p * 4 + 3)) 20 := vp_in_nI (by omega) (by decide)
  unfold wpX_execute
  refine xa_ip1 hp hi (br_f (by decide) ⟨iv, ?_⟩)
  rw [cl, e20, ux_c (n := p * 20 + s) (by omega)]
  refine ⟨vp_in_nI (by omega) (by decide), nm_e (nm_r ho (nm_r ea4 (nm_r eb4 (nm_r e34 (nm_e ⟨iv, iv, nm_e (br_f (by decide) <| br_f (by decide) <| br_f (by decide) <| br_f (by decide) <| br_f (by decide) <| br_f (by decide) <| br_f (by decide) <| br_f (by decide) <| br_f (by decide) <| br_f (by decide) <| br_f (by decide) <| br_f (by decide) <| br_f (by decide) <| br_f (by decide) <| br_f (by decide) <| br_f (by decide) <| br_f (by decide) <| br_t rfl <| ?_)⟩)))))⟩
  refine ?_
  exact h _ (fun u hu => hu)
theorem xj_16 {post : Int32 → SX → Prop} (H : ux_in sp pn pg p s l a b 16) (h : ∀ Q : SX → Prop, (∀ u, xk post p 16 u → Q u) → wpX_write Q (ql, pr, ex, kd, ns, np, wo, en, st, pp, upd sp p (sp p + 1), pc, pg, pn, rg, ds, fi, ow, po, pw, pl, qu, ou) (nI p) (nI (p * 4 + a)) (nI (p * 4 + b))) : wpX_execute post (ql, pr, ex, kd, ns, np, wo, en, st, pp, sp, pc, pg, pn, rg, ds, fi, ow, po, pw, pl, qu, ou) (nI p) := by
  obtain ⟨hp, hi, ho, ha, ea, hb, eb⟩ := H
  obtain ⟨h1, h2, h3, h4⟩ := id hi
  have cl : (nI p).toNatClampNeg = p := ux_c (by omega)
  have iv : vp_in (nI p) 5 := vp_in_nI hp (by decide)
  have e20 : nI p * 20 + sp p = nI (p * 20 + s) := by rw [h3, ux_mul_l, nI_add]
  have ea4 : nI p * 4 + ((pg (p * 20 + s) >>> ((5 : Int32) &&& 31)) &&& 3) = nI (p * 4 + a) := by rw [ea, ux_mul_l, nI_add]
  have eb4 : nI p * 4 + ((pg (p * 20 + s) >>> ((7 : Int32) &&& 31)) &&& 3) = nI (p * 4 + b) := by rw [eb, ux_mul_l, nI_add]
  have e34 : nI p * 4 + 3 = nI (p * 4 + 3) := by rw [ux_mul_l, ux_add_l]
  have ca : (nI (p * 4 + a)).toNatClampNeg = p * 4 + a := ux_c (by omega)
  have cb : (nI (p * 4 + b)).toNatClampNeg = p * 4 + b := ux_c (by omega)
  have c3 : (nI (p * 4 + 3)).toNatClampNeg = p * 4 + 3 := ux_c (by omega)
  have va : vp_in (nI (p * 4 + a)) 20 := vp_in_nI (by omega) (by decide)
  have vb : vp_in (nI (p * 4 + b)) 20 := vp_in_nI (by omega) (by decide)
  have v3 : vp_in (nI (p * 4 + 3)) 20 := vp_in_nI (by omega) (by decide)
  unfold wpX_execute
  refine xa_ip1 hp hi (br_f (by decide) ⟨iv, ?_⟩)
  rw [cl, e20, ux_c (n := p * 20 + s) (by omega)]
  refine ⟨vp_in_nI (by omega) (by decide), nm_e (nm_r ho (nm_r ea4 (nm_r eb4 (nm_r e34 (nm_e ⟨iv, iv, nm_e (br_f (by decide) <| br_f (by decide) <| br_f (by decide) <| br_f (by decide) <| br_f (by decide) <| br_f (by decide) <| br_f (by decide) <| br_f (by decide) <| br_f (by decide) <| br_f (by decide) <| br_f (by decide) <| br_f (by decide) <| br_f (by decide) <| br_f (by decide) <| br_f (by decide) <| br_f (by decide) <| br_f (by decide) <| br_f (by decide) <| br_t rfl <| ?_)⟩)))))⟩
  refine ?_
  exact h _ (fun u hu => hu)
theorem xj_17 {post : Int32 → SX → Prop} (H : ux_in sp pn pg p s l a b 17) (h : ∀ Q : SX → Prop, (∀ u, xk post p 17 u → Q u) → wpX_openPipe Q (ql, pr, ex, kd, ns, np, wo, en, st, pp, upd sp p (sp p + 1), pc, pg, pn, rg, ds, fi, ow, po, pw, pl, qu, ou) (nI p) (nI (p * 4 + a)) (nI (p * 4 + b))) : wpX_execute post (ql, pr, ex, kd, ns, np, wo, en, st, pp, sp, pc, pg, pn, rg, ds, fi, ow, po, pw, pl, qu, ou) (nI p) := by
  obtain ⟨hp, hi, ho, ha, ea, hb, eb⟩ := H
  obtain ⟨h1, h2, h3, h4⟩ := id hi
  have cl : (nI p).toNatClampNeg = p := ux_c (by omega)
  have iv : vp_in (nI p) 5 := vp_in_nI hp (by decide)
  have e20 : nI p * 20 + sp p = nI (p * 20 + s) := by rw [h3, ux_mul_l, nI_add]
  have ea4 : nI p * 4 + ((pg (p * 20 + s) >>> ((5 : Int32) &&& 31)) &&& 3) = nI (p * 4 + a) := by rw [ea, ux_mul_l, nI_add]
  have eb4 : nI p * 4 + ((pg (p * 20 + s) >>> ((7 : Int32) &&& 31)) &&& 3) = nI (p * 4 + b) := by rw [eb, ux_mul_l, nI_add]
  have e34 : nI p * 4 + 3 = nI (p * 4 + 3) := by rw [ux_mul_l, ux_add_l]
  have ca : (nI (p * 4 + a)).toNatClampNeg = p * 4 + a := ux_c (by omega)
  have cb : (nI (p * 4 + b)).toNatClampNeg = p * 4 + b := ux_c (by omega)
  have c3 : (nI (p * 4 + 3)).toNatClampNeg = p * 4 + 3 := ux_c (by omega)
  have va : vp_in (nI (p * 4 + a)) 20 := vp_in_nI (by omega) (by decide)
  have vb : vp_in (nI (p * 4 + b)) 20 := vp_in_nI (by omega) (by decide)
  have v3 : vp_in (nI (p * 4 + 3)) 20 := vp_in_nI (by omega) (by decide)
  unfold wpX_execute
  refine xa_ip1 hp hi (br_f (by decide) ⟨iv, ?_⟩)
  rw [cl, e20, ux_c (n := p * 20 + s) (by omega)]
  refine ⟨vp_in_nI (by omega) (by decide), nm_e (nm_r ho (nm_r ea4 (nm_r eb4 (nm_r e34 (nm_e ⟨iv, iv, nm_e (br_f (by decide) <| br_f (by decide) <| br_f (by decide) <| br_f (by decide) <| br_f (by decide) <| br_f (by decide) <| br_f (by decide) <| br_f (by decide) <| br_f (by decide) <| br_f (by decide) <| br_f (by decide) <| br_f (by decide) <| br_f (by decide) <| br_f (by decide) <| br_f (by decide) <| br_f (by decide) <| br_f (by decide) <| br_f (by decide) <| br_f (by decide) <| br_t rfl <| ?_)⟩)))))⟩
  refine ?_
  exact h _ (fun u hu => hu)
theorem xj_18 {post : Int32 → SX → Prop} (H : ux_in sp pn pg p s l a b 18) (h : ∀ Q : SX → Prop, (∀ u, xk post p 18 u → Q u) → wpX_copyDescriptor Q (ql, pr, ex, kd, ns, np, wo, en, st, pp, upd sp p (sp p + 1), pc, pg, pn, rg, ds, fi, ow, po, pw, pl, qu, ou) (nI p) (nI (p * 4 + a)) (nI (p * 4 + b))) : wpX_execute post (ql, pr, ex, kd, ns, np, wo, en, st, pp, sp, pc, pg, pn, rg, ds, fi, ow, po, pw, pl, qu, ou) (nI p) := by
  obtain ⟨hp, hi, ho, ha, ea, hb, eb⟩ := H
  obtain ⟨h1, h2, h3, h4⟩ := id hi
  have cl : (nI p).toNatClampNeg = p := ux_c (by omega)
  have iv : vp_in (nI p) 5 := vp_in_nI hp (by decide)
  have e20 : nI p * 20 + sp p = nI (p * 20 + s) := by rw [h3, ux_mul_l, nI_add]
  have ea4 : nI p * 4 + ((pg (p * 20 + s) >>> ((5 : Int32) &&& 31)) &&& 3) = nI (p * 4 + a) := by rw [ea, ux_mul_l, nI_add]
  have eb4 : nI p * 4 + ((pg (p * 20 + s) >>> ((7 : Int32) &&& 31)) &&& 3) = nI (p * 4 + b) := by rw [eb, ux_mul_l, nI_add]
  have e34 : nI p * 4 + 3 = nI (p * 4 + 3) := by rw [ux_mul_l, ux_add_l]
  have ca : (nI (p * 4 + a)).toNatClampNeg = p * 4 + a := ux_c (by omega)
  have cb : (nI (p * 4 + b)).toNatClampNeg = p * 4 + b := ux_c (by omega)
  have c3 : (nI (p * 4 + 3)).toNatClampNeg = p * 4 + 3 := ux_c (by omega)
  have va : vp_in (nI (p * 4 + a)) 20 := vp_in_nI (by omega) (by decide)
  have vb : vp_in (nI (p * 4 + b)) 20 := vp_in_nI (by omega) (by decide)
  have v3 : vp_in (nI (p * 4 + 3)) 20 := vp_in_nI (by omega) (by decide)
  unfold wpX_execute
  refine xa_ip1 hp hi (br_f (by decide) ⟨iv, ?_⟩)
  rw [cl, e20, ux_c (n := p * 20 + s) (by omega)]
  refine ⟨vp_in_nI (by omega) (by decide), nm_e (nm_r ho (nm_r ea4 (nm_r eb4 (nm_r e34 (nm_e ⟨iv, iv, nm_e (br_f (by decide) <| br_f (by decide) <| br_f (by decide) <| br_f (by decide) <| br_f (by decide) <| br_f (by decide) <| br_f (by decide) <| br_f (by decide) <| br_f (by decide) <| br_f (by decide) <| br_f (by decide) <| br_f (by decide) <| br_f (by decide) <| br_f (by decide) <| br_f (by decide) <| br_f (by decide) <| br_f (by decide) <| br_f (by decide) <| br_f (by decide) <| br_f (by decide) <| br_t rfl <| ?_)⟩)))))⟩
  refine ?_
  exact h _ (fun u hu => hu)
theorem xj_24 {post : Int32 → SX → Prop} (H : ux_in sp pn pg p s l a b 24) (h : ∀ Q : SX → Prop, (∀ u, xk post p 24 u → Q u) → wpX_print Q (ql, pr, ex, kd, ns, np, wo, en, st, pp, upd sp p (sp p + 1), pc, pg, pn, rg, ds, fi, ow, po, pw, pl, qu, ou) (rg (p * 4 + a))) : wpX_execute post (ql, pr, ex, kd, ns, np, wo, en, st, pp, sp, pc, pg, pn, rg, ds, fi, ow, po, pw, pl, qu, ou) (nI p) := by
  obtain ⟨hp, hi, ho, ha, ea, hb, eb⟩ := H
  obtain ⟨h1, h2, h3, h4⟩ := id hi
  have cl : (nI p).toNatClampNeg = p := ux_c (by omega)
  have iv : vp_in (nI p) 5 := vp_in_nI hp (by decide)
  have e20 : nI p * 20 + sp p = nI (p * 20 + s) := by rw [h3, ux_mul_l, nI_add]
  have ea4 : nI p * 4 + ((pg (p * 20 + s) >>> ((5 : Int32) &&& 31)) &&& 3) = nI (p * 4 + a) := by rw [ea, ux_mul_l, nI_add]
  have eb4 : nI p * 4 + ((pg (p * 20 + s) >>> ((7 : Int32) &&& 31)) &&& 3) = nI (p * 4 + b) := by rw [eb, ux_mul_l, nI_add]
  have e34 : nI p * 4 + 3 = nI (p * 4 + 3) := by rw [ux_mul_l, ux_add_l]
  have ca : (nI (p * 4 + a)).toNatClampNeg = p * 4 + a := ux_c (by omega)
  have cb : (nI (p * 4 + b)).toNatClampNeg = p * 4 + b := ux_c (by omega)
  have c3 : (nI (p * 4 + 3)).toNatClampNeg = p * 4 + 3 := ux_c (by omega)
  have va : vp_in (nI (p * 4 + a)) 20 := vp_in_nI (by omega) (by decide)
  have vb : vp_in (nI (p * 4 + b)) 20 := vp_in_nI (by omega) (by decide)
  have v3 : vp_in (nI (p * 4 + 3)) 20 := vp_in_nI (by omega) (by decide)
  unfold wpX_execute
  refine xa_ip1 hp hi (br_f (by decide) ⟨iv, ?_⟩)
  rw [cl, e20, ux_c (n := p * 20 + s) (by omega)]
  refine ⟨vp_in_nI (by omega) (by decide), nm_e (nm_r ho (nm_r ea4 (nm_r eb4 (nm_r e34 (nm_e ⟨iv, iv, nm_e (br_f (by decide) <| br_f (by decide) <| br_f (by decide) <| br_f (by decide) <| br_f (by decide) <| br_f (by decide) <| br_f (by decide) <| br_f (by decide) <| br_f (by decide) <| br_f (by decide) <| br_f (by decide) <| br_f (by decide) <| br_f (by decide) <| br_f (by decide) <| br_f (by decide) <| br_f (by decide) <| br_f (by decide) <| br_f (by decide) <| br_f (by decide) <| br_f (by decide) <| br_f (by decide) <| br_f (by decide) <| br_f (by decide) <| br_f (by decide) <| br_f (by decide) <| br_f (by decide) <| br_t rfl <| ?_)⟩)))))⟩
  rw [ca]
  refine ⟨va, ?_⟩
  exact h _ (fun u hu => hu)
theorem xj_14 {post : Int32 → SX → Prop} (H : ux_in sp pn pg p s l a b 14) (h : ∀ Q : Int32 → SX → Prop, (∀ r u, xk3 post p 14 r u → Q r u) → wpX_close Q (ql, pr, ex, kd, ns, np, wo, en, st, pp, upd sp p (sp p + 1), pc, pg, pn, rg, ds, fi, ow, po, pw, pl, qu, ou) (nI p) (rg (p * 4 + b))) : wpX_execute post (ql, pr, ex, kd, ns, np, wo, en, st, pp, sp, pc, pg, pn, rg, ds, fi, ow, po, pw, pl, qu, ou) (nI p) := by
  obtain ⟨hp, hi, ho, ha, ea, hb, eb⟩ := H
  obtain ⟨h1, h2, h3, h4⟩ := id hi
  have cl : (nI p).toNatClampNeg = p := ux_c (by omega)
  have iv : vp_in (nI p) 5 := vp_in_nI hp (by decide)
  have e20 : nI p * 20 + sp p = nI (p * 20 + s) := by rw [h3, ux_mul_l, nI_add]
  have ea4 : nI p * 4 + ((pg (p * 20 + s) >>> ((5 : Int32) &&& 31)) &&& 3) = nI (p * 4 + a) := by rw [ea, ux_mul_l, nI_add]
  have eb4 : nI p * 4 + ((pg (p * 20 + s) >>> ((7 : Int32) &&& 31)) &&& 3) = nI (p * 4 + b) := by rw [eb, ux_mul_l, nI_add]
  have e34 : nI p * 4 + 3 = nI (p * 4 + 3) := by rw [ux_mul_l, ux_add_l]
  have ca : (nI (p * 4 + a)).toNatClampNeg = p * 4 + a := ux_c (by omega)
  have cb : (nI (p * 4 + b)).toNatClampNeg = p * 4 + b := ux_c (by omega)
  have c3 : (nI (p * 4 + 3)).toNatClampNeg = p * 4 + 3 := ux_c (by omega)
  have va : vp_in (nI (p * 4 + a)) 20 := vp_in_nI (by omega) (by decide)
  have vb : vp_in (nI (p * 4 + b)) 20 := vp_in_nI (by omega) (by decide)
  have v3 : vp_in (nI (p * 4 + 3)) 20 := vp_in_nI (by omega) (by decide)
  unfold wpX_execute
  refine xa_ip1 hp hi (br_f (by decide) ⟨iv, ?_⟩)
  rw [cl, e20, ux_c (n := p * 20 + s) (by omega)]
  refine ⟨vp_in_nI (by omega) (by decide), nm_e (nm_r ho (nm_r ea4 (nm_r eb4 (nm_r e34 (nm_e ⟨iv, iv, nm_e (br_f (by decide) <| br_f (by decide) <| br_f (by decide) <| br_f (by decide) <| br_f (by decide) <| br_f (by decide) <| br_f (by decide) <| br_f (by decide) <| br_f (by decide) <| br_f (by decide) <| br_f (by decide) <| br_f (by decide) <| br_f (by decide) <| br_f (by decide) <| br_f (by decide) <| br_f (by decide) <| br_t rfl <| ?_)⟩)))))⟩
  rw [cb]
  refine ⟨vb, h _ (fun r u hu => ?_)⟩
  obtain ⟨ql, pr, ex, kd, ns, np, wo, en, st, pp, sp, pc, pg, pn, rg, ds, fi, ow, po, pw, pl, qu, ou⟩ := u
  refine ⟨v3, ?_⟩
  rw [c3]
  exact nm_e hu
theorem xj_19 {post : Int32 → SX → Prop} (H : ux_in sp pn pg p s l a b 19) (h : ∀ Q : Int32 → SX → Prop, (∀ r u, xk3 post p 19 r u → Q r u) → wpX_seek Q (ql, pr, ex, kd, ns, np, wo, en, st, pp, upd sp p (sp p + 1), pc, pg, pn, rg, ds, fi, ow, po, pw, pl, qu, ou) (nI p) (rg (p * 4 + a)) (rg (p * 4 + b))) : wpX_execute post (ql, pr, ex, kd, ns, np, wo, en, st, pp, sp, pc, pg, pn, rg, ds, fi, ow, po, pw, pl, qu, ou) (nI p) := by
  obtain ⟨hp, hi, ho, ha, ea, hb, eb⟩ := H
  obtain ⟨h1, h2, h3, h4⟩ := id hi
  have cl : (nI p).toNatClampNeg = p := ux_c (by omega)
  have iv : vp_in (nI p) 5 := vp_in_nI hp (by decide)
  have e20 : nI p * 20 + sp p = nI (p * 20 + s) := by rw [h3, ux_mul_l, nI_add]
  have ea4 : nI p * 4 + ((pg (p * 20 + s) >>> ((5 : Int32) &&& 31)) &&& 3) = nI (p * 4 + a) := by rw [ea, ux_mul_l, nI_add]
  have eb4 : nI p * 4 + ((pg (p * 20 + s) >>> ((7 : Int32) &&& 31)) &&& 3) = nI (p * 4 + b) := by rw [eb, ux_mul_l, nI_add]
  have e34 : nI p * 4 + 3 = nI (p * 4 + 3) := by rw [ux_mul_l, ux_add_l]
  have ca : (nI (p * 4 + a)).toNatClampNeg = p * 4 + a := ux_c (by omega)
  have cb : (nI (p * 4 + b)).toNatClampNeg = p * 4 + b := ux_c (by omega)
  have c3 : (nI (p * 4 + 3)).toNatClampNeg = p * 4 + 3 := ux_c (by omega)
  have va : vp_in (nI (p * 4 + a)) 20 := vp_in_nI (by omega) (by decide)
  have vb : vp_in (nI (p * 4 + b)) 20 := vp_in_nI (by omega) (by decide)
  have v3 : vp_in (nI (p * 4 + 3)) 20 := vp_in_nI (by omega) (by decide)
  unfold wpX_execute
  refine xa_ip1 hp hi (br_f (by decide) ⟨iv, ?_⟩)
  rw [cl, e20, ux_c (n := p * 20 + s) (by omega)]
  refine ⟨vp_in_nI (by omega) (by decide), nm_e (nm_r ho (nm_r ea4 (nm_r eb4 (nm_r e34 (nm_e ⟨iv, iv, nm_e (br_f (by decide) <| br_f (by decide) <| br_f (by decide) <| br_f (by decide) <| br_f (by decide) <| br_f (by decide) <| br_f (by decide) <| br_f (by decide) <| br_f (by decide) <| br_f (by decide) <| br_f (by decide) <| br_f (by decide) <| br_f (by decide) <| br_f (by decide) <| br_f (by decide) <| br_f (by decide) <| br_f (by decide) <| br_f (by decide) <| br_f (by decide) <| br_f (by decide) <| br_f (by decide) <| br_t rfl <| ?_)⟩)))))⟩
  rw [ca, cb]
  refine ⟨va, vb, h _ (fun r u hu => ?_)⟩
  obtain ⟨ql, pr, ex, kd, ns, np, wo, en, st, pp, sp, pc, pg, pn, rg, ds, fi, ow, po, pw, pl, qu, ou⟩ := u
  refine ⟨v3, ?_⟩
  rw [c3]
  exact nm_e hu
theorem xj_20 {post : Int32 → SX → Prop} (H : ux_in sp pn pg p s l a b 20) (h : ∀ Q : Int32 → SX → Prop, (∀ r u, xk3 post p 20 r u → Q r u) → wpX_makeDirectory Q (ql, pr, ex, kd, ns, np, wo, en, st, pp, upd sp p (sp p + 1), pc, pg, pn, rg, ds, fi, ow, po, pw, pl, qu, ou) (nI p) (rg (p * 4 + a))) : wpX_execute post (ql, pr, ex, kd, ns, np, wo, en, st, pp, sp, pc, pg, pn, rg, ds, fi, ow, po, pw, pl, qu, ou) (nI p) := by
  obtain ⟨hp, hi, ho, ha, ea, hb, eb⟩ := H
  obtain ⟨h1, h2, h3, h4⟩ := id hi
  have cl : (nI p).toNatClampNeg = p := ux_c (by omega)
  have iv : vp_in (nI p) 5 := vp_in_nI hp (by decide)
  have e20 : nI p * 20 + sp p = nI (p * 20 + s) := by rw [h3, ux_mul_l, nI_add]
  have ea4 : nI p * 4 + ((pg (p * 20 + s) >>> ((5 : Int32) &&& 31)) &&& 3) = nI (p * 4 + a) := by rw [ea, ux_mul_l, nI_add]
  have eb4 : nI p * 4 + ((pg (p * 20 + s) >>> ((7 : Int32) &&& 31)) &&& 3) = nI (p * 4 + b) := by rw [eb, ux_mul_l, nI_add]
  have e34 : nI p * 4 + 3 = nI (p * 4 + 3) := by rw [ux_mul_l, ux_add_l]
  have ca : (nI (p * 4 + a)).toNatClampNeg = p * 4 + a := ux_c (by omega)
  have cb : (nI (p * 4 + b)).toNatClampNeg = p * 4 + b := ux_c (by omega)
  have c3 : (nI (p * 4 + 3)).toNatClampNeg = p * 4 + 3 := ux_c (by omega)
  have va : vp_in (nI (p * 4 + a)) 20 := vp_in_nI (by omega) (by decide)
  have vb : vp_in (nI (p * 4 + b)) 20 := vp_in_nI (by omega) (by decide)
  have v3 : vp_in (nI (p * 4 + 3)) 20 := vp_in_nI (by omega) (by decide)
  unfold wpX_execute
  refine xa_ip1 hp hi (br_f (by decide) ⟨iv, ?_⟩)
  rw [cl, e20, ux_c (n := p * 20 + s) (by omega)]
  refine ⟨vp_in_nI (by omega) (by decide), nm_e (nm_r ho (nm_r ea4 (nm_r eb4 (nm_r e34 (nm_e ⟨iv, iv, nm_e (br_f (by decide) <| br_f (by decide) <| br_f (by decide) <| br_f (by decide) <| br_f (by decide) <| br_f (by decide) <| br_f (by decide) <| br_f (by decide) <| br_f (by decide) <| br_f (by decide) <| br_f (by decide) <| br_f (by decide) <| br_f (by decide) <| br_f (by decide) <| br_f (by decide) <| br_f (by decide) <| br_f (by decide) <| br_f (by decide) <| br_f (by decide) <| br_f (by decide) <| br_f (by decide) <| br_f (by decide) <| br_t rfl <| ?_)⟩)))))⟩
  rw [ca]
  refine ⟨va, h _ (fun r u hu => ?_)⟩
  obtain ⟨ql, pr, ex, kd, ns, np, wo, en, st, pp, sp, pc, pg, pn, rg, ds, fi, ow, po, pw, pl, qu, ou⟩ := u
  refine ⟨v3, ?_⟩
  rw [c3]
  exact nm_e hu
theorem xj_21 {post : Int32 → SX → Prop} (H : ux_in sp pn pg p s l a b 21) (h : ∀ Q : Int32 → SX → Prop, (∀ r u, xk3 post p 21 r u → Q r u) → wpX_go Q (ql, pr, ex, kd, ns, np, wo, en, st, pp, upd sp p (sp p + 1), pc, pg, pn, rg, ds, fi, ow, po, pw, pl, qu, ou) (nI p) (rg (p * 4 + a))) : wpX_execute post (ql, pr, ex, kd, ns, np, wo, en, st, pp, sp, pc, pg, pn, rg, ds, fi, ow, po, pw, pl, qu, ou) (nI p) := by
  obtain ⟨hp, hi, ho, ha, ea, hb, eb⟩ := H
  obtain ⟨h1, h2, h3, h4⟩ := id hi
  have cl : (nI p).toNatClampNeg = p := ux_c (by omega)
  have iv : vp_in (nI p) 5 := vp_in_nI hp (by decide)
  have e20 : nI p * 20 + sp p = nI (p * 20 + s) := by rw [h3, ux_mul_l, nI_add]
  have ea4 : nI p * 4 + ((pg (p * 20 + s) >>> ((5 : Int32) &&& 31)) &&& 3) = nI (p * 4 + a) := by rw [ea, ux_mul_l, nI_add]
  have eb4 : nI p * 4 + ((pg (p * 20 + s) >>> ((7 : Int32) &&& 31)) &&& 3) = nI (p * 4 + b) := by rw [eb, ux_mul_l, nI_add]
  have e34 : nI p * 4 + 3 = nI (p * 4 + 3) := by rw [ux_mul_l, ux_add_l]
  have ca : (nI (p * 4 + a)).toNatClampNeg = p * 4 + a := ux_c (by omega)
  have cb : (nI (p * 4 + b)).toNatClampNeg = p * 4 + b := ux_c (by omega)
  have c3 : (nI (p * 4 + 3)).toNatClampNeg = p * 4 + 3 := ux_c (by omega)
  have va : vp_in (nI (p * 4 + a)) 20 := vp_in_nI (by omega) (by decide)
  have vb : vp_in (nI (p * 4 + b)) 20 := vp_in_nI (by omega) (by decide)
  have v3 : vp_in (nI (p * 4 + 3)) 20 := vp_in_nI (by omega) (by decide)
  unfold wpX_execute
  refine xa_ip1 hp hi (br_f (by decide) ⟨iv, ?_⟩)
  rw [cl, e20, ux_c (n := p * 20 + s) (by omega)]
  refine ⟨vp_in_nI (by omega) (by decide), nm_e (nm_r ho (nm_r ea4 (nm_r eb4 (nm_r e34 (nm_e ⟨iv, iv, nm_e (br_f (by decide) <| br_f (by decide) <| br_f (by decide) <| br_f (by decide) <| br_f (by decide) <| br_f (by decide) <| br_f (by decide) <| br_f (by decide) <| br_f (by decide) <| br_f (by decide) <| br_f (by decide) <| br_f (by decide) <| br_f (by decide) <| br_f (by decide) <| br_f (by decide) <| br_f (by decide) <| br_f (by decide) <| br_f (by decide) <| br_f (by decide) <| br_f (by decide) <| br_f (by decide) <| br_f (by decide) <| br_f (by decide) <| br_t rfl <| ?_)⟩)))))⟩
  rw [ca]
  refine ⟨va, h _ (fun r u hu => ?_)⟩
  obtain ⟨ql, pr, ex, kd, ns, np, wo, en, st, pp, sp, pc, pg, pn, rg, ds, fi, ow, po, pw, pl, qu, ou⟩ := u
  refine ⟨v3, ?_⟩
  rw [c3]
  exact nm_e hu
theorem xj_22 {post : Int32 → SX → Prop} (H : ux_in sp pn pg p s l a b 22) (h : ∀ Q : Int32 → SX → Prop, (∀ r u, xk3 post p 22 r u → Q r u) → wpX_link Q (ql, pr, ex, kd, ns, np, wo, en, st, pp, upd sp p (sp p + 1), pc, pg, pn, rg, ds, fi, ow, po, pw, pl, qu, ou) (nI p) (rg (p * 4 + a)) (rg (p * 4 + b))) : wpX_execute post (ql, pr, ex, kd, ns, np, wo, en, st, pp, sp, pc, pg, pn, rg, ds, fi, ow, po, pw, pl, qu, ou) (nI p) := by
  obtain ⟨hp, hi, ho, ha, ea, hb, eb⟩ := H
  obtain ⟨h1, h2, h3, h4⟩ := id hi
  have cl : (nI p).toNatClampNeg = p := ux_c (by omega)
  have iv : vp_in (nI p) 5 := vp_in_nI hp (by decide)
  have e20 : nI p * 20 + sp p = nI (p * 20 + s) := by rw [h3, ux_mul_l, nI_add]
  have ea4 : nI p * 4 + ((pg (p * 20 + s) >>> ((5 : Int32) &&& 31)) &&& 3) = nI (p * 4 + a) := by rw [ea, ux_mul_l, nI_add]
  have eb4 : nI p * 4 + ((pg (p * 20 + s) >>> ((7 : Int32) &&& 31)) &&& 3) = nI (p * 4 + b) := by rw [eb, ux_mul_l, nI_add]
  have e34 : nI p * 4 + 3 = nI (p * 4 + 3) := by rw [ux_mul_l, ux_add_l]
  have ca : (nI (p * 4 + a)).toNatClampNeg = p * 4 + a := ux_c (by omega)
  have cb : (nI (p * 4 + b)).toNatClampNeg = p * 4 + b := ux_c (by omega)
  have c3 : (nI (p * 4 + 3)).toNatClampNeg = p * 4 + 3 := ux_c (by omega)
  have va : vp_in (nI (p * 4 + a)) 20 := vp_in_nI (by omega) (by decide)
  have vb : vp_in (nI (p * 4 + b)) 20 := vp_in_nI (by omega) (by decide)
  have v3 : vp_in (nI (p * 4 + 3)) 20 := vp_in_nI (by omega) (by decide)
  unfold wpX_execute
  refine xa_ip1 hp hi (br_f (by decide) ⟨iv, ?_⟩)
  rw [cl, e20, ux_c (n := p * 20 + s) (by omega)]
  refine ⟨vp_in_nI (by omega) (by decide), nm_e (nm_r ho (nm_r ea4 (nm_r eb4 (nm_r e34 (nm_e ⟨iv, iv, nm_e (br_f (by decide) <| br_f (by decide) <| br_f (by decide) <| br_f (by decide) <| br_f (by decide) <| br_f (by decide) <| br_f (by decide) <| br_f (by decide) <| br_f (by decide) <| br_f (by decide) <| br_f (by decide) <| br_f (by decide) <| br_f (by decide) <| br_f (by decide) <| br_f (by decide) <| br_f (by decide) <| br_f (by decide) <| br_f (by decide) <| br_f (by decide) <| br_f (by decide) <| br_f (by decide) <| br_f (by decide) <| br_f (by decide) <| br_f (by decide) <| br_t rfl <| ?_)⟩)))))⟩
  rw [ca, cb]
  refine ⟨va, vb, h _ (fun r u hu => ?_)⟩
  obtain ⟨ql, pr, ex, kd, ns, np, wo, en, st, pp, sp, pc, pg, pn, rg, ds, fi, ow, po, pw, pl, qu, ou⟩ := u
  refine ⟨v3, ?_⟩
  rw [c3]
  exact nm_e hu
theorem xj_23 {post : Int32 → SX → Prop} (H : ux_in sp pn pg p s l a b 23) (h : ∀ Q : Int32 → SX → Prop, (∀ r u, xk3 post p 23 r u → Q r u) → wpX_remove Q (ql, pr, ex, kd, ns, np, wo, en, st, pp, upd sp p (sp p + 1), pc, pg, pn, rg, ds, fi, ow, po, pw, pl, qu, ou) (nI p) (rg (p * 4 + a))) : wpX_execute post (ql, pr, ex, kd, ns, np, wo, en, st, pp, sp, pc, pg, pn, rg, ds, fi, ow, po, pw, pl, qu, ou) (nI p) := by
  obtain ⟨hp, hi, ho, ha, ea, hb, eb⟩ := H
  obtain ⟨h1, h2, h3, h4⟩ := id hi
  have cl : (nI p).toNatClampNeg = p := ux_c (by omega)
  have iv : vp_in (nI p) 5 := vp_in_nI hp (by decide)
  have e20 : nI p * 20 + sp p = nI (p * 20 + s) := by rw [h3, ux_mul_l, nI_add]
  have ea4 : nI p * 4 + ((pg (p * 20 + s) >>> ((5 : Int32) &&& 31)) &&& 3) = nI (p * 4 + a) := by rw [ea, ux_mul_l, nI_add]
  have eb4 : nI p * 4 + ((pg (p * 20 + s) >>> ((7 : Int32) &&& 31)) &&& 3) = nI (p * 4 + b) := by rw [eb, ux_mul_l, nI_add]
  have e34 : nI p * 4 + 3 = nI (p * 4 + 3) := by rw [ux_mul_l, ux_add_l]
  have ca : (nI (p * 4 + a)).toNatClampNeg = p * 4 + a := ux_c (by omega)
  have cb : (nI (p * 4 + b)).toNatClampNeg = p * 4 + b := ux_c (by omega)
  have c3 : (nI (p * 4 + 3)).toNatClampNeg = p * 4 + 3 := ux_c (by omega)
  have va : vp_in (nI (p * 4 + a)) 20 := vp_in_nI (by omega) (by decide)
  have vb : vp_in (nI (p * 4 + b)) 20 := vp_in_nI (by omega) (by decide)
  have v3 : vp_in (nI (p * 4 + 3)) 20 := vp_in_nI (by omega) (by decide)
  unfold wpX_execute
  refine xa_ip1 hp hi (br_f (by decide) ⟨iv, ?_⟩)
  rw [cl, e20, ux_c (n := p * 20 + s) (by omega)]
  refine ⟨vp_in_nI (by omega) (by decide), nm_e (nm_r ho (nm_r ea4 (nm_r eb4 (nm_r e34 (nm_e ⟨iv, iv, nm_e (br_f (by decide) <| br_f (by decide) <| br_f (by decide) <| br_f (by decide) <| br_f (by decide) <| br_f (by decide) <| br_f (by decide) <| br_f (by decide) <| br_f (by decide) <| br_f (by decide) <| br_f (by decide) <| br_f (by decide) <| br_f (by decide) <| br_f (by decide) <| br_f (by decide) <| br_f (by decide) <| br_f (by decide) <| br_f (by decide) <| br_f (by decide) <| br_f (by decide) <| br_f (by decide) <| br_f (by decide) <| br_f (by decide) <| br_f (by decide) <| br_f (by decide) <| br_t rfl <| ?_)⟩)))))⟩
  rw [ca]
  refine ⟨va, h _ (fun r u hu => ?_)⟩
  obtain ⟨ql, pr, ex, kd, ns, np, wo, en, st, pp, sp, pc, pg, pn, rg, ds, fi, ow, po, pw, pl, qu, ou⟩ := u
  refine ⟨v3, ?_⟩
  rw [c3]
  exact nm_e hu
theorem xj_28 {post : Int32 → SX → Prop} (H : ux_in sp pn pg p s l a b 28) (h : ∀ Q : Int32 → SX → Prop, (∀ r u, xk3 post p 28 r u → Q r u) → wpX_kill Q (ql, pr, ex, kd, ns, np, wo, en, st, pp, upd sp p (sp p + 1), pc, pg, pn, rg, ds, fi, ow, po, pw, pl, qu, ou) (nI p) (rg (p * 4 + a))) : wpX_execute post (ql, pr, ex, kd, ns, np, wo, en, st, pp, sp, pc, pg, pn, rg, ds, fi, ow, po, pw, pl, qu, ou) (nI p) := by
  obtain ⟨hp, hi, ho, ha, ea, hb, eb⟩ := H
  obtain ⟨h1, h2, h3, h4⟩ := id hi
  have cl : (nI p).toNatClampNeg = p := ux_c (by omega)
  have iv : vp_in (nI p) 5 := vp_in_nI hp (by decide)
  have e20 : nI p * 20 + sp p = nI (p * 20 + s) := by rw [h3, ux_mul_l, nI_add]
  have ea4 : nI p * 4 + ((pg (p * 20 + s) >>> ((5 : Int32) &&& 31)) &&& 3) = nI (p * 4 + a) := by rw [ea, ux_mul_l, nI_add]
  have eb4 : nI p * 4 + ((pg (p * 20 + s) >>> ((7 : Int32) &&& 31)) &&& 3) = nI (p * 4 + b) := by rw [eb, ux_mul_l, nI_add]
  have e34 : nI p * 4 + 3 = nI (p * 4 + 3) := by rw [ux_mul_l, ux_add_l]
  have ca : (nI (p * 4 + a)).toNatClampNeg = p * 4 + a := ux_c (by omega)
  have cb : (nI (p * 4 + b)).toNatClampNeg = p * 4 + b := ux_c (by omega)
  have c3 : (nI (p * 4 + 3)).toNatClampNeg = p * 4 + 3 := ux_c (by omega)
  have va : vp_in (nI (p * 4 + a)) 20 := vp_in_nI (by omega) (by decide)
  have vb : vp_in (nI (p * 4 + b)) 20 := vp_in_nI (by omega) (by decide)
  have v3 : vp_in (nI (p * 4 + 3)) 20 := vp_in_nI (by omega) (by decide)
  unfold wpX_execute
  refine xa_ip1 hp hi (br_f (by decide) ⟨iv, ?_⟩)
  rw [cl, e20, ux_c (n := p * 20 + s) (by omega)]
  refine ⟨vp_in_nI (by omega) (by decide), nm_e (nm_r ho (nm_r ea4 (nm_r eb4 (nm_r e34 (nm_e ⟨iv, iv, nm_e (br_f (by decide) <| br_f (by decide) <| br_f (by decide) <| br_f (by decide) <| br_f (by decide) <| br_f (by decide) <| br_f (by decide) <| br_f (by decide) <| br_f (by decide) <| br_f (by decide) <| br_f (by decide) <| br_f (by decide) <| br_f (by decide) <| br_f (by decide) <| br_f (by decide) <| br_f (by decide) <| br_f (by decide) <| br_f (by decide) <| br_f (by decide) <| br_f (by decide) <| br_f (by decide) <| br_f (by decide) <| br_f (by decide) <| br_f (by decide) <| br_f (by decide) <| br_f (by decide) <| br_f (by decide) <| br_f (by decide) <| br_f (by decide) <| br_f (by decide) <| br_t rfl <| ?_)⟩)))))⟩
  rw [ca]
  refine ⟨va, h _ (fun r u hu => ?_)⟩
  obtain ⟨ql, pr, ex, kd, ns, np, wo, en, st, pp, sp, pc, pg, pn, rg, ds, fi, ow, po, pw, pl, qu, ou⟩ := u
  refine ⟨v3, ?_⟩
  rw [c3]
  exact nm_e hu
theorem xj_1 {post : Int32 → SX → Prop} (H : ux_in sp pn pg p s l a b 1) (h : wX_execute_634 post (nI p) 1 ql pr ex kd ns np wo en st pp (upd sp p (sp p + 1)) pc pg pn (upd rg (p * 4 + a) ((pg (p * 20 + s) >>> ((9 : Int32) &&& 31)))) ds fi ow po pw pl qu ou) : wpX_execute post (ql, pr, ex, kd, ns, np, wo, en, st, pp, sp, pc, pg, pn, rg, ds, fi, ow, po, pw, pl, qu, ou) (nI p) := by
  obtain ⟨hp, hi, ho, ha, ea, hb, eb⟩ := H
  obtain ⟨h1, h2, h3, h4⟩ := id hi
  have cl : (nI p).toNatClampNeg = p := ux_c (by omega)
  have iv : vp_in (nI p) 5 := vp_in_nI hp (by decide)
  have e20 : nI p * 20 + sp p = nI (p * 20 + s) := by rw [h3, ux_mul_l, nI_add]
  have ea4 : nI p * 4 + ((pg (p * 20 + s) >>> ((5 : Int32) &&& 31)) &&& 3) = nI (p * 4 + a) := by rw [ea, ux_mul_l, nI_add]
  have eb4 : nI p * 4 + ((pg (p * 20 + s) >>> ((7 : Int32) &&& 31)) &&& 3) = nI (p * 4 + b) := by rw [eb, ux_mul_l, nI_add]
  have e34 : nI p * 4 + 3 = nI (p * 4 + 3) := by rw [ux_mul_l, ux_add_l]
  have ca : (nI (p * 4 + a)).toNatClampNeg = p * 4 + a := ux_c (by omega)
  have cb : (nI (p * 4 + b)).toNatClampNeg = p * 4 + b := ux_c (by omega)
  have c3 : (nI (p * 4 + 3)).toNatClampNeg = p * 4 + 3 := ux_c (by omega)
  have va : vp_in (nI (p * 4 + a)) 20 := vp_in_nI (by omega) (by decide)
  have vb : vp_in (nI (p * 4 + b)) 20 := vp_in_nI (by omega) (by decide)
  have v3 : vp_in (nI (p * 4 + 3)) 20 := vp_in_nI (by omega) (by decide)
  unfold wpX_execute
  refine xa_ip1 hp hi (br_f (by decide) ⟨iv, ?_⟩)
  rw [cl, e20, ux_c (n := p * 20 + s) (by omega)]
  refine ⟨vp_in_nI (by omega) (by decide), nm_e (nm_r ho (nm_r ea4 (nm_r eb4 (nm_r e34 (nm_e ⟨iv, iv, nm_e (br_f (by decide) <| br_f (by decide) <| br_f (by decide) <| br_t rfl <| ?_)⟩)))))⟩
  unfold wX_execute_606
  rw [ca, cb]
  exact ⟨va, vb, br_f (by decide) <| br_f (by decide) <| br_t rfl <| ⟨va, nm_e h⟩⟩
theorem xj_2 {post : Int32 → SX → Prop} (H : ux_in sp pn pg p s l a b 2) (h : wX_execute_634 post (nI p) 2 ql pr ex kd ns np wo en st pp (upd sp p (sp p + 1)) pc pg pn (upd rg (p * 4 + a) (rg (p * 4 + b))) ds fi ow po pw pl qu ou) : wpX_execute post (ql, pr, ex, kd, ns, np, wo, en, st, pp, sp, pc, pg, pn, rg, ds, fi, ow, po, pw, pl, qu, ou) (nI p) := by
  obtain ⟨hp, hi, ho, ha, ea, hb, eb⟩ := H
  obtain ⟨h1, h2, h3, h4⟩ := id hi
  have cl : (nI p).toNatClampNeg = p := ux_c (by omega)
  have iv : vp_in (nI p) 5 := vp_in_nI hp (by decide)
  have e20 : nI p * 20 + sp p = nI (p * 20 + s) := by rw [h3, ux_mul_l, nI_add]
  have ea4 : nI p * 4 + ((pg (p * 20 + s) >>> ((5 : Int32) &&& 31)) &&& 3) = nI (p * 4 + a) := by rw [ea, ux_mul_l, nI_add]
  have eb4 : nI p * 4 + ((pg (p * 20 + s) >>> ((7 : Int32) &&& 31)) &&& 3) = nI (p * 4 + b) := by rw [eb, ux_mul_l, nI_add]
  have e34 : nI p * 4 + 3 = nI (p * 4 + 3) := by rw [ux_mul_l, ux_add_l]
  have ca : (nI (p * 4 + a)).toNatClampNeg = p * 4 + a := ux_c (by omega)
  have cb : (nI (p * 4 + b)).toNatClampNeg = p * 4 + b := ux_c (by omega)
  have c3 : (nI (p * 4 + 3)).toNatClampNeg = p * 4 + 3 := ux_c (by omega)
  have va : vp_in (nI (p * 4 + a)) 20 := vp_in_nI (by omega) (by decide)
  have vb : vp_in (nI (p * 4 + b)) 20 := vp_in_nI (by omega) (by decide)
  have v3 : vp_in (nI (p * 4 + 3)) 20 := vp_in_nI (by omega) (by decide)
  unfold wpX_execute
  refine xa_ip1 hp hi (br_f (by decide) ⟨iv, ?_⟩)
  rw [cl, e20, ux_c (n := p * 20 + s) (by omega)]
  refine ⟨vp_in_nI (by omega) (by decide), nm_e (nm_r ho (nm_r ea4 (nm_r eb4 (nm_r e34 (nm_e ⟨iv, iv, nm_e (br_f (by decide) <| br_f (by decide) <| br_f (by decide) <| br_f (by decide) <| br_t rfl <| ?_)⟩)))))⟩
  unfold wX_execute_606
  rw [ca, cb]
  exact ⟨va, vb, br_f (by decide) <| br_f (by decide) <| br_f (by decide) <| br_t rfl <| ⟨va, nm_e h⟩⟩
theorem xj_3 {post : Int32 → SX → Prop} (H : ux_in sp pn pg p s l a b 3) (h : wX_execute_634 post (nI p) 3 ql pr ex kd ns np wo en st pp (upd sp p (sp p + 1)) pc pg pn (upd rg (p * 4 + a) (rg (p * 4 + a) + rg (p * 4 + b))) ds fi ow po pw pl qu ou) : wpX_execute post (ql, pr, ex, kd, ns, np, wo, en, st, pp, sp, pc, pg, pn, rg, ds, fi, ow, po, pw, pl, qu, ou) (nI p) := by
  obtain ⟨hp, hi, ho, ha, ea, hb, eb⟩ := H
  obtain ⟨h1, h2, h3, h4⟩ := id hi
  have cl : (nI p).toNatClampNeg = p := ux_c (by omega)
  have iv : vp_in (nI p) 5 := vp_in_nI hp (by decide)
  have e20 : nI p * 20 + sp p = nI (p * 20 + s) := by rw [h3, ux_mul_l, nI_add]
  have ea4 : nI p * 4 + ((pg (p * 20 + s) >>> ((5 : Int32) &&& 31)) &&& 3) = nI (p * 4 + a) := by rw [ea, ux_mul_l, nI_add]
  have eb4 : nI p * 4 + ((pg (p * 20 + s) >>> ((7 : Int32) &&& 31)) &&& 3) = nI (p * 4 + b) := by rw [eb, ux_mul_l, nI_add]
  have e34 : nI p * 4 + 3 = nI (p * 4 + 3) := by rw [ux_mul_l, ux_add_l]
  have ca : (nI (p * 4 + a)).toNatClampNeg = p * 4 + a := ux_c (by omega)
  have cb : (nI (p * 4 + b)).toNatClampNeg = p * 4 + b := ux_c (by omega)
  have c3 : (nI (p * 4 + 3)).toNatClampNeg = p * 4 + 3 := ux_c (by omega)
  have va : vp_in (nI (p * 4 + a)) 20 := vp_in_nI (by omega) (by decide)
  have vb : vp_in (nI (p * 4 + b)) 20 := vp_in_nI (by omega) (by decide)
  have v3 : vp_in (nI (p * 4 + 3)) 20 := vp_in_nI (by omega) (by decide)
  unfold wpX_execute
  refine xa_ip1 hp hi (br_f (by decide) ⟨iv, ?_⟩)
  rw [cl, e20, ux_c (n := p * 20 + s) (by omega)]
  refine ⟨vp_in_nI (by omega) (by decide), nm_e (nm_r ho (nm_r ea4 (nm_r eb4 (nm_r e34 (nm_e ⟨iv, iv, nm_e (br_f (by decide) <| br_f (by decide) <| br_f (by decide) <| br_f (by decide) <| br_f (by decide) <| br_t rfl <| ?_)⟩)))))⟩
  unfold wX_execute_606
  rw [ca, cb]
  exact ⟨va, vb, br_f (by decide) <| br_f (by decide) <| br_f (by decide) <| br_f (by decide) <| br_t rfl <| ⟨va, nm_e h⟩⟩
theorem xj_4 {post : Int32 → SX → Prop} (H : ux_in sp pn pg p s l a b 4) (h : wX_execute_634 post (nI p) 4 ql pr ex kd ns np wo en st pp (upd sp p (sp p + 1)) pc pg pn (upd rg (p * 4 + a) (rg (p * 4 + a) - rg (p * 4 + b))) ds fi ow po pw pl qu ou) : wpX_execute post (ql, pr, ex, kd, ns, np, wo, en, st, pp, sp, pc, pg, pn, rg, ds, fi, ow, po, pw, pl, qu, ou) (nI p) := by
  obtain ⟨hp, hi, ho, ha, ea, hb, eb⟩ := H
  obtain ⟨h1, h2, h3, h4⟩ := id hi
  have cl : (nI p).toNatClampNeg = p := ux_c (by omega)
  have iv : vp_in (nI p) 5 := vp_in_nI hp (by decide)
  have e20 : nI p * 20 + sp p = nI (p * 20 + s) := by rw [h3, ux_mul_l, nI_add]
  have ea4 : nI p * 4 + ((pg (p * 20 + s) >>> ((5 : Int32) &&& 31)) &&& 3) = nI (p * 4 + a) := by rw [ea, ux_mul_l, nI_add]
  have eb4 : nI p * 4 + ((pg (p * 20 + s) >>> ((7 : Int32) &&& 31)) &&& 3) = nI (p * 4 + b) := by rw [eb, ux_mul_l, nI_add]
  have e34 : nI p * 4 + 3 = nI (p * 4 + 3) := by rw [ux_mul_l, ux_add_l]
  have ca : (nI (p * 4 + a)).toNatClampNeg = p * 4 + a := ux_c (by omega)
  have cb : (nI (p * 4 + b)).toNatClampNeg = p * 4 + b := ux_c (by omega)
  have c3 : (nI (p * 4 + 3)).toNatClampNeg = p * 4 + 3 := ux_c (by omega)
  have va : vp_in (nI (p * 4 + a)) 20 := vp_in_nI (by omega) (by decide)
  have vb : vp_in (nI (p * 4 + b)) 20 := vp_in_nI (by omega) (by decide)
  have v3 : vp_in (nI (p * 4 + 3)) 20 := vp_in_nI (by omega) (by decide)
  unfold wpX_execute
  refine xa_ip1 hp hi (br_f (by decide) ⟨iv, ?_⟩)
  rw [cl, e20, ux_c (n := p * 20 + s) (by omega)]
  refine ⟨vp_in_nI (by omega) (by decide), nm_e (nm_r ho (nm_r ea4 (nm_r eb4 (nm_r e34 (nm_e ⟨iv, iv, nm_e (br_f (by decide) <| br_f (by decide) <| br_f (by decide) <| br_f (by decide) <| br_f (by decide) <| br_f (by decide) <| br_t rfl <| ?_)⟩)))))⟩
  unfold wX_execute_606
  rw [ca, cb]
  exact ⟨va, vb, br_f (by decide) <| br_f (by decide) <| br_f (by decide) <| br_f (by decide) <| br_f (by decide) <| br_t rfl <| ⟨va, nm_e h⟩⟩
theorem xj_5 {post : Int32 → SX → Prop} (H : ux_in sp pn pg p s l a b 5) (h : wX_execute_634 post (nI p) 5 ql pr ex kd ns np wo en st pp (upd sp p (sp p + 1)) pc pg pn (upd rg (p * 4 + a) (rg (p * 4 + a) + (pg (p * 20 + s) >>> ((9 : Int32) &&& 31)))) ds fi ow po pw pl qu ou) : wpX_execute post (ql, pr, ex, kd, ns, np, wo, en, st, pp, sp, pc, pg, pn, rg, ds, fi, ow, po, pw, pl, qu, ou) (nI p) := by
  obtain ⟨hp, hi, ho, ha, ea, hb, eb⟩ := H
  obtain ⟨h1, h2, h3, h4⟩ := id hi
  have cl : (nI p).toNatClampNeg = p := ux_c (by omega)
  have iv : vp_in (nI p) 5 := vp_in_nI hp (by decide)
  have e20 : nI p * 20 + sp p = nI (p * 20 + s) := by rw [h3, ux_mul_l, nI_add]
  have ea4 : nI p * 4 + ((pg (p * 20 + s) >>> ((5 : Int32) &&& 31)) &&& 3) = nI (p * 4 + a) := by rw [ea, ux_mul_l, nI_add]
  have eb4 : nI p * 4 + ((pg (p * 20 + s) >>> ((7 : Int32) &&& 31)) &&& 3) = nI (p * 4 + b) := by rw [eb, ux_mul_l, nI_add]
  have e34 : nI p * 4 + 3 = nI (p * 4 + 3) := by rw [ux_mul_l, ux_add_l]
  have ca : (nI (p * 4 + a)).toNatClampNeg = p * 4 + a := ux_c (by omega)
  have cb : (nI (p * 4 + b)).toNatClampNeg = p * 4 + b := ux_c (by omega)
  have c3 : (nI (p * 4 + 3)).toNatClampNeg = p * 4 + 3 := ux_c (by omega)
  have va : vp_in (nI (p * 4 + a)) 20 := vp_in_nI (by omega) (by decide)
  have vb : vp_in (nI (p * 4 + b)) 20 := vp_in_nI (by omega) (by decide)
  have v3 : vp_in (nI (p * 4 + 3)) 20 := vp_in_nI (by omega) (by decide)
  unfold wpX_execute
  refine xa_ip1 hp hi (br_f (by decide) ⟨iv, ?_⟩)
  rw [cl, e20, ux_c (n := p * 20 + s) (by omega)]
  refine ⟨vp_in_nI (by omega) (by decide), nm_e (nm_r ho (nm_r ea4 (nm_r eb4 (nm_r e34 (nm_e ⟨iv, iv, nm_e (br_f (by decide) <| br_f (by decide) <| br_f (by decide) <| br_f (by decide) <| br_f (by decide) <| br_f (by decide) <| br_f (by decide) <| br_t rfl <| ?_)⟩)))))⟩
  unfold wX_execute_606
  rw [ca, cb]
  exact ⟨va, vb, br_f (by decide) <| br_f (by decide) <| br_f (by decide) <| br_f (by decide) <| br_f (by decide) <| br_f (by decide) <| br_t rfl <| ⟨va, nm_e h⟩⟩
theorem xj_6 {post : Int32 → SX → Prop} (H : ux_in sp pn pg p s l a b 6) (h : wX_execute_634 post (nI p) 6 ql pr ex kd ns np wo en st pp (upd sp p (sp p + 1)) pc pg pn (upd rg (p * 4 + a) (if rg (p * 4 + b) ≤ rg (p * 4 + a) then 0 else 1)) ds fi ow po pw pl qu ou) : wpX_execute post (ql, pr, ex, kd, ns, np, wo, en, st, pp, sp, pc, pg, pn, rg, ds, fi, ow, po, pw, pl, qu, ou) (nI p) := by
  obtain ⟨hp, hi, ho, ha, ea, hb, eb⟩ := H
  obtain ⟨h1, h2, h3, h4⟩ := id hi
  have cl : (nI p).toNatClampNeg = p := ux_c (by omega)
  have iv : vp_in (nI p) 5 := vp_in_nI hp (by decide)
  have e20 : nI p * 20 + sp p = nI (p * 20 + s) := by rw [h3, ux_mul_l, nI_add]
  have ea4 : nI p * 4 + ((pg (p * 20 + s) >>> ((5 : Int32) &&& 31)) &&& 3) = nI (p * 4 + a) := by rw [ea, ux_mul_l, nI_add]
  have eb4 : nI p * 4 + ((pg (p * 20 + s) >>> ((7 : Int32) &&& 31)) &&& 3) = nI (p * 4 + b) := by rw [eb, ux_mul_l, nI_add]
  have e34 : nI p * 4 + 3 = nI (p * 4 + 3) := by rw [ux_mul_l, ux_add_l]
  have ca : (nI (p * 4 + a)).toNatClampNeg = p * 4 + a := ux_c (by omega)
  have cb : (nI (p * 4 + b)).toNatClampNeg = p * 4 + b := ux_c (by omega)
  have c3 : (nI (p * 4 + 3)).toNatClampNeg = p * 4 + 3 := ux_c (by omega)
  have va : vp_in (nI (p * 4 + a)) 20 := vp_in_nI (by omega) (by decide)
  have vb : vp_in (nI (p * 4 + b)) 20 := vp_in_nI (by omega) (by decide)
  have v3 : vp_in (nI (p * 4 + 3)) 20 := vp_in_nI (by omega) (by decide)
  unfold wpX_execute
  refine xa_ip1 hp hi (br_f (by decide) ⟨iv, ?_⟩)
  rw [cl, e20, ux_c (n := p * 20 + s) (by omega)]
  refine ⟨vp_in_nI (by omega) (by decide), nm_e (nm_r ho (nm_r ea4 (nm_r eb4 (nm_r e34 (nm_e ⟨iv, iv, nm_e (br_f (by decide) <| br_f (by decide) <| br_f (by decide) <| br_f (by decide) <| br_f (by decide) <| br_f (by decide) <| br_f (by decide) <| br_f (by decide) <| br_t rfl <| ?_)⟩)))))⟩
  unfold wX_execute_606
  rw [ca, cb]
  refine ⟨va, vb, br_f (by decide) <| br_f (by decide) <| br_f (by decide) <| br_f (by decide) <| br_f (by decide) <| br_f (by decide) <| br_f (by decide) <| br_t rfl ?_⟩
  by_cases hc : rg (p * 4 + b) ≤ rg (p * 4 + a)
  · rw [if_pos hc] at h
    exact br_t hc ⟨va, nm_e h⟩
  · rw [if_neg hc] at h
    exact br_f hc ⟨va, nm_e h⟩
theorem xj_25 {post : Int32 → SX → Prop} (H : ux_in sp pn pg p s l a b 25) (h : wX_execute_634 post (nI p) 25 ql pr ex kd ns np wo en st pp (upd sp p (sp p + 1)) pc pg pn (upd rg (p * 4 + a) (rg (p * 4 + a))) ds fi ow po pw pl qu ou) : wpX_execute post (ql, pr, ex, kd, ns, np, wo, en, st, pp, sp, pc, pg, pn, rg, ds, fi, ow, po, pw, pl, qu, ou) (nI p) := by
  obtain ⟨hp, hi, ho, ha, ea, hb, eb⟩ := H
  obtain ⟨h1, h2, h3, h4⟩ := id hi
  have cl : (nI p).toNatClampNeg = p := ux_c (by omega)
  have iv : vp_in (nI p) 5 := vp_in_nI hp (by decide)
  have e20 : nI p * 20 + sp p = nI (p * 20 + s) := by rw [h3, ux_mul_l, nI_add]
  have ea4 : nI p * 4 + ((pg (p * 20 + s) >>> ((5 : Int32) &&& 31)) &&& 3) = nI (p * 4 + a) := by rw [ea, ux_mul_l, nI_add]
  have eb4 : nI p * 4 + ((pg (p * 20 + s) >>> ((7 : Int32) &&& 31)) &&& 3) = nI (p * 4 + b) := by rw [eb, ux_mul_l, nI_add]
  have e34 : nI p * 4 + 3 = nI (p * 4 + 3) := by rw [ux_mul_l, ux_add_l]
  have ca : (nI (p * 4 + a)).toNatClampNeg = p * 4 + a := ux_c (by omega)
  have cb : (nI (p * 4 + b)).toNatClampNeg = p * 4 + b := ux_c (by omega)
  have c3 : (nI (p * 4 + 3)).toNatClampNeg = p * 4 + 3 := ux_c (by omega)
  have va : vp_in (nI (p * 4 + a)) 20 := vp_in_nI (by omega) (by decide)
  have vb : vp_in (nI (p * 4 + b)) 20 := vp_in_nI (by omega) (by decide)
  have v3 : vp_in (nI (p * 4 + 3)) 20 := vp_in_nI (by omega) (by decide)
  unfold wpX_execute
  refine xa_ip1 hp hi (br_f (by decide) ⟨iv, ?_⟩)
  rw [cl, e20, ux_c (n := p * 20 + s) (by omega)]
  refine ⟨vp_in_nI (by omega) (by decide), nm_e (nm_r ho (nm_r ea4 (nm_r eb4 (nm_r e34 (nm_e ⟨iv, iv, nm_e (br_f (by decide) <| br_f (by decide) <| br_f (by decide) <| br_f (by decide) <| br_f (by decide) <| br_f (by decide) <| br_f (by decide) <| br_f (by decide) <| br_f (by decide) <| br_f (by decide) <| br_f (by decide) <| br_f (by decide) <| br_f (by decide) <| br_f (by decide) <| br_f (by decide) <| br_f (by decide) <| br_f (by decide) <| br_f (by decide) <| br_f (by decide) <| br_f (by decide) <| br_f (by decide) <| br_f (by decide) <| br_f (by decide) <| br_f (by decide) <| br_f (by decide) <| br_f (by decide) <| br_f (by decide) <| br_t rfl <| ?_)⟩)))))⟩
  unfold wX_execute_606
  rw [ca, cb]
  exact ⟨va, vb, br_f (by decide) <| br_t (by decide) <| ⟨va, nm_e h⟩⟩
theorem xj_29 {post : Int32 → SX → Prop} (H : ux_in sp pn pg p s l a b 29) (h : wX_execute_634 post (nI p) 29 ql pr ex kd ns np wo en st pp (upd sp p (sp p + 1)) pc pg pn (upd rg (p * 4 + a) (rg (p * 4 + a))) ds fi ow po pw pl qu ou) : wpX_execute post (ql, pr, ex, kd, ns, np, wo, en, st, pp, sp, pc, pg, pn, rg, ds, fi, ow, po, pw, pl, qu, ou) (nI p) := by
  obtain ⟨hp, hi, ho, ha, ea, hb, eb⟩ := H
  obtain ⟨h1, h2, h3, h4⟩ := id hi
  have cl : (nI p).toNatClampNeg = p := ux_c (by omega)
  have iv : vp_in (nI p) 5 := vp_in_nI hp (by decide)
  have e20 : nI p * 20 + sp p = nI (p * 20 + s) := by rw [h3, ux_mul_l, nI_add]
  have ea4 : nI p * 4 + ((pg (p * 20 + s) >>> ((5 : Int32) &&& 31)) &&& 3) = nI (p * 4 + a) := by rw [ea, ux_mul_l, nI_add]
  have eb4 : nI p * 4 + ((pg (p * 20 + s) >>> ((7 : Int32) &&& 31)) &&& 3) = nI (p * 4 + b) := by rw [eb, ux_mul_l, nI_add]
  have e34 : nI p * 4 + 3 = nI (p * 4 + 3) := by rw [ux_mul_l, ux_add_l]
  have ca : (nI (p * 4 + a)).toNatClampNeg = p * 4 + a := ux_c (by omega)
  have cb : (nI (p * 4 + b)).toNatClampNeg = p * 4 + b := ux_c (by omega)
  have c3 : (nI (p * 4 + 3)).toNatClampNeg = p * 4 + 3 := ux_c (by omega)
  have va : vp_in (nI (p * 4 + a)) 20 := vp_in_nI (by omega) (by decide)
  have vb : vp_in (nI (p * 4 + b)) 20 := vp_in_nI (by omega) (by decide)
  have v3 : vp_in (nI (p * 4 + 3)) 20 := vp_in_nI (by omega) (by decide)
  unfold wpX_execute
  refine xa_ip1 hp hi (br_f (by decide) ⟨iv, ?_⟩)
  rw [cl, e20, ux_c (n := p * 20 + s) (by omega)]
  refine ⟨vp_in_nI (by omega) (by decide), nm_e (nm_r ho (nm_r ea4 (nm_r eb4 (nm_r e34 (nm_e ⟨iv, iv, nm_e (br_f (by decide) <| br_t (by decide) <| ?_)⟩)))))⟩
  unfold wX_execute_606
  rw [ca, cb]
  exact ⟨va, vb, br_f (by decide) <| br_t (by decide) <| ⟨va, nm_e h⟩⟩
theorem xj_30 {post : Int32 → SX → Prop} (H : ux_in sp pn pg p s l a b 30) (h : wX_execute_634 post (nI p) 30 ql pr ex kd ns np wo en st pp (upd sp p (sp p + 1)) pc pg pn (upd rg (p * 4 + a) (rg (p * 4 + a))) ds fi ow po pw pl qu ou) : wpX_execute post (ql, pr, ex, kd, ns, np, wo, en, st, pp, sp, pc, pg, pn, rg, ds, fi, ow, po, pw, pl, qu, ou) (nI p) := by
  obtain ⟨hp, hi, ho, ha, ea, hb, eb⟩ := H
  obtain ⟨h1, h2, h3, h4⟩ := id hi
  have cl : (nI p).toNatClampNeg = p := ux_c (by omega)
  have iv : vp_in (nI p) 5 := vp_in_nI hp (by decide)
  have e20 : nI p * 20 + sp p = nI (p * 20 + s) := by rw [h3, ux_mul_l, nI_add]
  have ea4 : nI p * 4 + ((pg (p * 20 + s) >>> ((5 : Int32) &&& 31)) &&& 3) = nI (p * 4 + a) := by rw [ea, ux_mul_l, nI_add]
  have eb4 : nI p * 4 + ((pg (p * 20 + s) >>> ((7 : Int32) &&& 31)) &&& 3) = nI (p * 4 + b) := by rw [eb, ux_mul_l, nI_add]
  have e34 : nI p * 4 + 3 = nI (p * 4 + 3) := by rw [ux_mul_l, ux_add_l]
  have ca : (nI (p * 4 + a)).toNatClampNeg = p * 4 + a := ux_c (by omega)
  have cb : (nI (p * 4 + b)).toNatClampNeg = p * 4 + b := ux_c (by omega)
  have c3 : (nI (p * 4 + 3)).toNatClampNeg = p * 4 + 3 := ux_c (by omega)
  have va : vp_in (nI (p * 4 + a)) 20 := vp_in_nI (by omega) (by decide)
  have vb : vp_in (nI (p * 4 + b)) 20 := vp_in_nI (by omega) (by decide)
  have v3 : vp_in (nI (p * 4 + 3)) 20 := vp_in_nI (by omega) (by decide)
  unfold wpX_execute
  refine xa_ip1 hp hi (br_f (by decide) ⟨iv, ?_⟩)
  rw [cl, e20, ux_c (n := p * 20 + s) (by omega)]
  refine ⟨vp_in_nI (by omega) (by decide), nm_e (nm_r ho (nm_r ea4 (nm_r eb4 (nm_r e34 (nm_e ⟨iv, iv, nm_e (br_f (by decide) <| br_t (by decide) <| ?_)⟩)))))⟩
  unfold wX_execute_606
  rw [ca, cb]
  exact ⟨va, vb, br_f (by decide) <| br_t (by decide) <| ⟨va, nm_e h⟩⟩
theorem xj_31 {post : Int32 → SX → Prop} (H : ux_in sp pn pg p s l a b 31) (h : wX_execute_634 post (nI p) 31 ql pr ex kd ns np wo en st pp (upd sp p (sp p + 1)) pc pg pn (upd rg (p * 4 + a) (rg (p * 4 + a))) ds fi ow po pw pl qu ou) : wpX_execute post (ql, pr, ex, kd, ns, np, wo, en, st, pp, sp, pc, pg, pn, rg, ds, fi, ow, po, pw, pl, qu, ou) (nI p) := by
  obtain ⟨hp, hi, ho, ha, ea, hb, eb⟩ := H
  obtain ⟨h1, h2, h3, h4⟩ := id hi
  have cl : (nI p).toNatClampNeg = p := ux_c (by omega)
  have iv : vp_in (nI p) 5 := vp_in_nI hp (by decide)
  have e20 : nI p * 20 + sp p = nI (p * 20 + s) := by rw [h3, ux_mul_l, nI_add]
  have ea4 : nI p * 4 + ((pg (p * 20 + s) >>> ((5 : Int32) &&& 31)) &&& 3) = nI (p * 4 + a) := by rw [ea, ux_mul_l, nI_add]
  have eb4 : nI p * 4 + ((pg (p * 20 + s) >>> ((7 : Int32) &&& 31)) &&& 3) = nI (p * 4 + b) := by rw [eb, ux_mul_l, nI_add]
  have e34 : nI p * 4 + 3 = nI (p * 4 + 3) := by rw [ux_mul_l, ux_add_l]
  have ca : (nI (p * 4 + a)).toNatClampNeg = p * 4 + a := ux_c (by omega)
  have cb : (nI (p * 4 + b)).toNatClampNeg = p * 4 + b := ux_c (by omega)
  have c3 : (nI (p * 4 + 3)).toNatClampNeg = p * 4 + 3 := ux_c (by omega)
  have va : vp_in (nI (p * 4 + a)) 20 := vp_in_nI (by omega) (by decide)
  have vb : vp_in (nI (p * 4 + b)) 20 := vp_in_nI (by omega) (by decide)
  have v3 : vp_in (nI (p * 4 + 3)) 20 := vp_in_nI (by omega) (by decide)
  unfold wpX_execute
  refine xa_ip1 hp hi (br_f (by decide) ⟨iv, ?_⟩)
  rw [cl, e20, ux_c (n := p * 20 + s) (by omega)]
  refine ⟨vp_in_nI (by omega) (by decide), nm_e (nm_r ho (nm_r ea4 (nm_r eb4 (nm_r e34 (nm_e ⟨iv, iv, nm_e (br_f (by decide) <| br_t (by decide) <| ?_)⟩)))))⟩
  unfold wX_execute_606
  rw [ca, cb]
  exact ⟨va, vb, br_f (by decide) <| br_t (by decide) <| ⟨va, nm_e h⟩⟩
theorem xj_7z {post : Int32 → SX → Prop} (H : ux_in sp pn pg p s l a b 7) (hz : rg (p * 4 + a) = 0) (h : wX_execute_634 post (nI p) 7 ql pr ex kd ns np wo en st pp (upd (upd sp p (sp p + 1)) p (pg (p * 20 + s) >>> ((9 : Int32) &&& 31))) pc pg pn rg ds fi ow po pw pl qu ou) : wpX_execute post (ql, pr, ex, kd, ns, np, wo, en, st, pp, sp, pc, pg, pn, rg, ds, fi, ow, po, pw, pl, qu, ou) (nI p) := by
  obtain ⟨hp, hi, ho, ha, ea, hb, eb⟩ := H
  obtain ⟨h1, h2, h3, h4⟩ := id hi
  have cl : (nI p).toNatClampNeg = p := ux_c (by omega)
  have iv : vp_in (nI p) 5 := vp_in_nI hp (by decide)
  have e20 : nI p * 20 + sp p = nI (p * 20 + s) := by rw [h3, ux_mul_l, nI_add]
  have ea4 : nI p * 4 + ((pg (p * 20 + s) >>> ((5 : Int32) &&& 31)) &&& 3) = nI (p * 4 + a) := by rw [ea, ux_mul_l, nI_add]
  have eb4 : nI p * 4 + ((pg (p * 20 + s) >>> ((7 : Int32) &&& 31)) &&& 3) = nI (p * 4 + b) := by rw [eb, ux_mul_l, nI_add]
  have e34 : nI p * 4 + 3 = nI (p * 4 + 3) := by rw [ux_mul_l, ux_add_l]
  have ca : (nI (p * 4 + a)).toNatClampNeg = p * 4 + a := ux_c (by omega)
  have cb : (nI (p * 4 + b)).toNatClampNeg = p * 4 + b := ux_c (by omega)
  have c3 : (nI (p * 4 + 3)).toNatClampNeg = p * 4 + 3 := ux_c (by omega)
  have va : vp_in (nI (p * 4 + a)) 20 := vp_in_nI (by omega) (by decide)
  have vb : vp_in (nI (p * 4 + b)) 20 := vp_in_nI (by omega) (by decide)
  have v3 : vp_in (nI (p * 4 + 3)) 20 := vp_in_nI (by omega) (by decide)
  unfold wpX_execute
  refine xa_ip1 hp hi (br_f (by decide) ⟨iv, ?_⟩)
  rw [cl, e20, ux_c (n := p * 20 + s) (by omega)]
  refine ⟨vp_in_nI (by omega) (by decide), nm_e (nm_r ho (nm_r ea4 (nm_r eb4 (nm_r e34 (nm_e ⟨iv, iv, nm_e (br_f (by decide) <| br_f (by decide) <| br_f (by decide) <| br_f (by decide) <| br_f (by decide) <| br_f (by decide) <| br_f (by decide) <| br_f (by decide) <| br_f (by decide) <| br_t rfl <| ?_)⟩)))))⟩
  rw [ca]
  refine ⟨va, br_t hz ?_⟩
  refine br_f (by decide) ⟨iv, ?_⟩
  rw [cl]
  exact nm_e h
theorem xj_7n {post : Int32 → SX → Prop} (H : ux_in sp pn pg p s l a b 7) (hz : rg (p * 4 + a) ≠ 0) (h : wX_execute_634 post (nI p) 7 ql pr ex kd ns np wo en st pp (upd sp p (sp p + 1)) pc pg pn rg ds fi ow po pw pl qu ou) : wpX_execute post (ql, pr, ex, kd, ns, np, wo, en, st, pp, sp, pc, pg, pn, rg, ds, fi, ow, po, pw, pl, qu, ou) (nI p) := by
  obtain ⟨hp, hi, ho, ha, ea, hb, eb⟩ := H
  obtain ⟨h1, h2, h3, h4⟩ := id hi
  have cl : (nI p).toNatClampNeg = p := ux_c (by omega)
  have iv : vp_in (nI p) 5 := vp_in_nI hp (by decide)
  have e20 : nI p * 20 + sp p = nI (p * 20 + s) := by rw [h3, ux_mul_l, nI_add]
  have ea4 : nI p * 4 + ((pg (p * 20 + s) >>> ((5 : Int32) &&& 31)) &&& 3) = nI (p * 4 + a) := by rw [ea, ux_mul_l, nI_add]
  have eb4 : nI p * 4 + ((pg (p * 20 + s) >>> ((7 : Int32) &&& 31)) &&& 3) = nI (p * 4 + b) := by rw [eb, ux_mul_l, nI_add]
  have e34 : nI p * 4 + 3 = nI (p * 4 + 3) := by rw [ux_mul_l, ux_add_l]
  have ca : (nI (p * 4 + a)).toNatClampNeg = p * 4 + a := ux_c (by omega)
  have cb : (nI (p * 4 + b)).toNatClampNeg = p * 4 + b := ux_c (by omega)
  have c3 : (nI (p * 4 + 3)).toNatClampNeg = p * 4 + 3 := ux_c (by omega)
  have va : vp_in (nI (p * 4 + a)) 20 := vp_in_nI (by omega) (by decide)
  have vb : vp_in (nI (p * 4 + b)) 20 := vp_in_nI (by omega) (by decide)
  have v3 : vp_in (nI (p * 4 + 3)) 20 := vp_in_nI (by omega) (by decide)
  unfold wpX_execute
  refine xa_ip1 hp hi (br_f (by decide) ⟨iv, ?_⟩)
  rw [cl, e20, ux_c (n := p * 20 + s) (by omega)]
  refine ⟨vp_in_nI (by omega) (by decide), nm_e (nm_r ho (nm_r ea4 (nm_r eb4 (nm_r e34 (nm_e ⟨iv, iv, nm_e (br_f (by decide) <| br_f (by decide) <| br_f (by decide) <| br_f (by decide) <| br_f (by decide) <| br_f (by decide) <| br_f (by decide) <| br_f (by decide) <| br_f (by decide) <| br_t rfl <| ?_)⟩)))))⟩
  rw [ca]
  refine ⟨va, br_f hz ?_⟩
  exact br_t rfl h
theorem xj_9z {post : Int32 → SX → Prop} (H : ux_in sp pn pg p s l a b 9) (hz : rg (p * 4 + a) = 0) (h : wX_execute_634 post (nI p) 9 ql pr ex kd ns np wo en st pp (upd sp p (sp p + 1)) pc pg pn rg ds fi ow po pw pl qu ou) : wpX_execute post (ql, pr, ex, kd, ns, np, wo, en, st, pp, sp, pc, pg, pn, rg, ds, fi, ow, po, pw, pl, qu, ou) (nI p) := by
  obtain ⟨hp, hi, ho, ha, ea, hb, eb⟩ := H
  obtain ⟨h1, h2, h3, h4⟩ := id hi
  have cl : (nI p).toNatClampNeg = p := ux_c (by omega)
  have iv : vp_in (nI p) 5 := vp_in_nI hp (by decide)
  have e20 : nI p * 20 + sp p = nI (p * 20 + s) := by rw [h3, ux_mul_l, nI_add]
  have ea4 : nI p * 4 + ((pg (p * 20 + s) >>> ((5 : Int32) &&& 31)) &&& 3) = nI (p * 4 + a) := by rw [ea, ux_mul_l, nI_add]
  have eb4 : nI p * 4 + ((pg (p * 20 + s) >>> ((7 : Int32) &&& 31)) &&& 3) = nI (p * 4 + b) := by rw [eb, ux_mul_l, nI_add]
  have e34 : nI p * 4 + 3 = nI (p * 4 + 3) := by rw [ux_mul_l, ux_add_l]
  have ca : (nI (p * 4 + a)).toNatClampNeg = p * 4 + a := ux_c (by omega)
  have cb : (nI (p * 4 + b)).toNatClampNeg = p * 4 + b := ux_c (by omega)
  have c3 : (nI (p * 4 + 3)).toNatClampNeg = p * 4 + 3 := ux_c (by omega)
  have va : vp_in (nI (p * 4 + a)) 20 := vp_in_nI (by omega) (by decide)
  have vb : vp_in (nI (p * 4 + b)) 20 := vp_in_nI (by omega) (by decide)
  have v3 : vp_in (nI (p * 4 + 3)) 20 := vp_in_nI (by omega) (by decide)
  unfold wpX_execute
  refine xa_ip1 hp hi (br_f (by decide) ⟨iv, ?_⟩)
  rw [cl, e20, ux_c (n := p * 20 + s) (by omega)]
  refine ⟨vp_in_nI (by omega) (by decide), nm_e (nm_r ho (nm_r ea4 (nm_r eb4 (nm_r e34 (nm_e ⟨iv, iv, nm_e (br_f (by decide) <| br_f (by decide) <| br_f (by decide) <| br_f (by decide) <| br_f (by decide) <| br_f (by decide) <| br_f (by decide) <| br_f (by decide) <| br_f (by decide) <| br_f (by decide) <| br_f (by decide) <| br_t rfl <| ?_)⟩)))))⟩
  rw [ca]
  refine ⟨va, br_t hz ?_⟩
  exact br_t rfl h
theorem xj_9n {post : Int32 → SX → Prop} (H : ux_in sp pn pg p s l a b 9) (hz : rg (p * 4 + a) ≠ 0) (h : wX_execute_634 post (nI p) 9 ql pr ex kd ns np wo en st pp (upd (upd sp p (sp p + 1)) p (pg (p * 20 + s) >>> ((9 : Int32) &&& 31))) pc pg pn rg ds fi ow po pw pl qu ou) : wpX_execute post (ql, pr, ex, kd, ns, np, wo, en, st, pp, sp, pc, pg, pn, rg, ds, fi, ow, po, pw, pl, qu, ou) (nI p) := by
  obtain ⟨hp, hi, ho, ha, ea, hb, eb⟩ := H
  obtain ⟨h1, h2, h3, h4⟩ := id hi
  have cl : (nI p).toNatClampNeg = p := ux_c (by omega)
  have iv : vp_in (nI p) 5 := vp_in_nI hp (by decide)
  have e20 : nI p * 20 + sp p = nI (p * 20 + s) := by rw [h3, ux_mul_l, nI_add]
  have ea4 : nI p * 4 + ((pg (p * 20 + s) >>> ((5 : Int32) &&& 31)) &&& 3) = nI (p * 4 + a) := by rw [ea, ux_mul_l, nI_add]
  have eb4 : nI p * 4 + ((pg (p * 20 + s) >>> ((7 : Int32) &&& 31)) &&& 3) = nI (p * 4 + b) := by rw [eb, ux_mul_l, nI_add]
  have e34 : nI p * 4 + 3 = nI (p * 4 + 3) := by rw [ux_mul_l, ux_add_l]
  have ca : (nI (p * 4 + a)).toNatClampNeg = p * 4 + a := ux_c (by omega)
  have cb : (nI (p * 4 + b)).toNatClampNeg = p * 4 + b := ux_c (by omega)
  have c3 : (nI (p * 4 + 3)).toNatClampNeg = p * 4 + 3 := ux_c (by omega)
  have va : vp_in (nI (p * 4 + a)) 20 := vp_in_nI (by omega) (by decide)
  have vb : vp_in (nI (p * 4 + b)) 20 := vp_in_nI (by omega) (by decide)
  have v3 : vp_in (nI (p * 4 + 3)) 20 := vp_in_nI (by omega) (by decide)
  unfold wpX_execute
  refine xa_ip1 hp hi (br_f (by decide) ⟨iv, ?_⟩)
  rw [cl, e20, ux_c (n := p * 20 + s) (by omega)]
  refine ⟨vp_in_nI (by omega) (by decide), nm_e (nm_r ho (nm_r ea4 (nm_r eb4 (nm_r e34 (nm_e ⟨iv, iv, nm_e (br_f (by decide) <| br_f (by decide) <| br_f (by decide) <| br_f (by decide) <| br_f (by decide) <| br_f (by decide) <| br_f (by decide) <| br_f (by decide) <| br_f (by decide) <| br_f (by decide) <| br_f (by decide) <| br_t rfl <| ?_)⟩)))))⟩
  rw [ca]
  refine ⟨va, br_f hz ?_⟩
  refine br_f (by decide) ⟨iv, ?_⟩
  rw [cl]
  exact nm_e h
theorem xj_8 {post : Int32 → SX → Prop} (H : ux_in sp pn pg p s l a b 8) (h : wX_execute_634 post (nI p) 8 ql pr ex kd ns np wo en st pp (upd (upd sp p (sp p + 1)) p (pg (p * 20 + s) >>> ((9 : Int32) &&& 31))) pc pg pn rg ds fi ow po pw pl qu ou) : wpX_execute post (ql, pr, ex, kd, ns, np, wo, en, st, pp, sp, pc, pg, pn, rg, ds, fi, ow, po, pw, pl, qu, ou) (nI p) := by
  obtain ⟨hp, hi, ho, ha, ea, hb, eb⟩ := H
  obtain ⟨h1, h2, h3, h4⟩ := id hi
  have cl : (nI p).toNatClampNeg = p := ux_c (by omega)
  have iv : vp_in (nI p) 5 := vp_in_nI hp (by decide)
  have e20 : nI p * 20 + sp p = nI (p * 20 + s) := by rw [h3, ux_mul_l, nI_add]
  have ea4 : nI p * 4 + ((pg (p * 20 + s) >>> ((5 : Int32) &&& 31)) &&& 3) = nI (p * 4 + a) := by rw [ea, ux_mul_l, nI_add]
  have eb4 : nI p * 4 + ((pg (p * 20 + s) >>> ((7 : Int32) &&& 31)) &&& 3) = nI (p * 4 + b) := by rw [eb, ux_mul_l, nI_add]
  have e34 : nI p * 4 + 3 = nI (p * 4 + 3) := by rw [ux_mul_l, ux_add_l]
  have ca : (nI (p * 4 + a)).toNatClampNeg = p * 4 + a := ux_c (by omega)
  have cb : (nI (p * 4 + b)).toNatClampNeg = p * 4 + b := ux_c (by omega)
  have c3 : (nI (p * 4 + 3)).toNatClampNeg = p * 4 + 3 := ux_c (by omega)
  have va : vp_in (nI (p * 4 + a)) 20 := vp_in_nI (by omega) (by decide)
  have vb : vp_in (nI (p * 4 + b)) 20 := vp_in_nI (by omega) (by decide)
  have v3 : vp_in (nI (p * 4 + 3)) 20 := vp_in_nI (by omega) (by decide)
  unfold wpX_execute
  refine xa_ip1 hp hi (br_f (by decide) ⟨iv, ?_⟩)
  rw [cl, e20, ux_c (n := p * 20 + s) (by omega)]
  refine ⟨vp_in_nI (by omega) (by decide), nm_e (nm_r ho (nm_r ea4 (nm_r eb4 (nm_r e34 (nm_e ⟨iv, iv, nm_e (br_f (by decide) <| br_f (by decide) <| br_f (by decide) <| br_f (by decide) <| br_f (by decide) <| br_f (by decide) <| br_f (by decide) <| br_f (by decide) <| br_f (by decide) <| br_f (by decide) <| br_t rfl <| ?_)⟩)))))⟩
  refine br_f (by decide) ⟨iv, ?_⟩
  rw [cl]
  exact nm_e h
theorem xj_26 {post : Int32 → SX → Prop} (H : ux_in sp pn pg p s l a b 26) (h : wX_execute_634 post (nI p) 26 ql pr ex kd ns np wo en st pp (upd sp p (sp p + 1)) pc pg pn (upd rg (p * 4 + a) (nI p)) ds fi ow po pw pl qu ou) : wpX_execute post (ql, pr, ex, kd, ns, np, wo, en, st, pp, sp, pc, pg, pn, rg, ds, fi, ow, po, pw, pl, qu, ou) (nI p) := by
  obtain ⟨hp, hi, ho, ha, ea, hb, eb⟩ := H
  obtain ⟨h1, h2, h3, h4⟩ := id hi
  have cl : (nI p).toNatClampNeg = p := ux_c (by omega)
  have iv : vp_in (nI p) 5 := vp_in_nI hp (by decide)
  have e20 : nI p * 20 + sp p = nI (p * 20 + s) := by rw [h3, ux_mul_l, nI_add]
  have ea4 : nI p * 4 + ((pg (p * 20 + s) >>> ((5 : Int32) &&& 31)) &&& 3) = nI (p * 4 + a) := by rw [ea, ux_mul_l, nI_add]
  have eb4 : nI p * 4 + ((pg (p * 20 + s) >>> ((7 : Int32) &&& 31)) &&& 3) = nI (p * 4 + b) := by rw [eb, ux_mul_l, nI_add]
  have e34 : nI p * 4 + 3 = nI (p * 4 + 3) := by rw [ux_mul_l, ux_add_l]
  have ca : (nI (p * 4 + a)).toNatClampNeg = p * 4 + a := ux_c (by omega)
  have cb : (nI (p * 4 + b)).toNatClampNeg = p * 4 + b := ux_c (by omega)
  have c3 : (nI (p * 4 + 3)).toNatClampNeg = p * 4 + 3 := ux_c (by omega)
  have va : vp_in (nI (p * 4 + a)) 20 := vp_in_nI (by omega) (by decide)
  have vb : vp_in (nI (p * 4 + b)) 20 := vp_in_nI (by omega) (by decide)
  have v3 : vp_in (nI (p * 4 + 3)) 20 := vp_in_nI (by omega) (by decide)
  unfold wpX_execute
  refine xa_ip1 hp hi (br_f (by decide) ⟨iv, ?_⟩)
  rw [cl, e20, ux_c (n := p * 20 + s) (by omega)]
  refine ⟨vp_in_nI (by omega) (by decide), nm_e (nm_r ho (nm_r ea4 (nm_r eb4 (nm_r e34 (nm_e ⟨iv, iv, nm_e (br_f (by decide) <| br_f (by decide) <| br_f (by decide) <| br_f (by decide) <| br_f (by decide) <| br_f (by decide) <| br_f (by decide) <| br_f (by decide) <| br_f (by decide) <| br_f (by decide) <| br_f (by decide) <| br_f (by decide) <| br_f (by decide) <| br_f (by decide) <| br_f (by decide) <| br_f (by decide) <| br_f (by decide) <| br_f (by decide) <| br_f (by decide) <| br_f (by decide) <| br_f (by decide) <| br_f (by decide) <| br_f (by decide) <| br_f (by decide) <| br_f (by decide) <| br_f (by decide) <| br_f (by decide) <| br_f (by decide) <| br_t rfl <| ?_)⟩)))))⟩
  rw [ca]
  exact ⟨va, nm_e h⟩
theorem xj_27 {post : Int32 → SX → Prop} (H : ux_in sp pn pg p s l a b 27) (h : ∀ Q : Int32 → Prop, (∀ r, wX_execute_634 post (nI p) 27 ql pr ex kd ns np wo en st pp (upd sp p (sp p + 1)) pc pg pn (upd rg (p * 4 + a) r) ds fi ow po pw pl qu ou → Q r) → wpX_sizeNamed Q (ql, pr, ex, kd, ns, np, wo, en, st, pp, upd sp p (sp p + 1), pc, pg, pn, rg, ds, fi, ow, po, pw, pl, qu, ou) (nI p) (rg (p * 4 + a))) : wpX_execute post (ql, pr, ex, kd, ns, np, wo, en, st, pp, sp, pc, pg, pn, rg, ds, fi, ow, po, pw, pl, qu, ou) (nI p) := by
  obtain ⟨hp, hi, ho, ha, ea, hb, eb⟩ := H
  obtain ⟨h1, h2, h3, h4⟩ := id hi
  have cl : (nI p).toNatClampNeg = p := ux_c (by omega)
  have iv : vp_in (nI p) 5 := vp_in_nI hp (by decide)
  have e20 : nI p * 20 + sp p = nI (p * 20 + s) := by rw [h3, ux_mul_l, nI_add]
  have ea4 : nI p * 4 + ((pg (p * 20 + s) >>> ((5 : Int32) &&& 31)) &&& 3) = nI (p * 4 + a) := by rw [ea, ux_mul_l, nI_add]
  have eb4 : nI p * 4 + ((pg (p * 20 + s) >>> ((7 : Int32) &&& 31)) &&& 3) = nI (p * 4 + b) := by rw [eb, ux_mul_l, nI_add]
  have e34 : nI p * 4 + 3 = nI (p * 4 + 3) := by rw [ux_mul_l, ux_add_l]
  have ca : (nI (p * 4 + a)).toNatClampNeg = p * 4 + a := ux_c (by omega)
  have cb : (nI (p * 4 + b)).toNatClampNeg = p * 4 + b := ux_c (by omega)
  have c3 : (nI (p * 4 + 3)).toNatClampNeg = p * 4 + 3 := ux_c (by omega)
  have va : vp_in (nI (p * 4 + a)) 20 := vp_in_nI (by omega) (by decide)
  have vb : vp_in (nI (p * 4 + b)) 20 := vp_in_nI (by omega) (by decide)
  have v3 : vp_in (nI (p * 4 + 3)) 20 := vp_in_nI (by omega) (by decide)
  unfold wpX_execute
  refine xa_ip1 hp hi (br_f (by decide) ⟨iv, ?_⟩)
  rw [cl, e20, ux_c (n := p * 20 + s) (by omega)]
  refine ⟨vp_in_nI (by omega) (by decide), nm_e (nm_r ho (nm_r ea4 (nm_r eb4 (nm_r e34 (nm_e ⟨iv, iv, nm_e (br_f (by decide) <| br_f (by decide) <| br_f (by decide) <| br_f (by decide) <| br_f (by decide) <| br_f (by decide) <| br_f (by decide) <| br_f (by decide) <| br_f (by decide) <| br_f (by decide) <| br_f (by decide) <| br_f (by decide) <| br_f (by decide) <| br_f (by decide) <| br_f (by decide) <| br_f (by decide) <| br_f (by decide) <| br_f (by decide) <| br_f (by decide) <| br_f (by decide) <| br_f (by decide) <| br_f (by decide) <| br_f (by decide) <| br_f (by decide) <| br_f (by decide) <| br_f (by decide) <| br_f (by decide) <| br_f (by decide) <| br_f (by decide) <| br_t rfl <| ?_)⟩)))))⟩
  rw [ca]
  exact ⟨va, h _ (fun r hr => ⟨va, nm_e hr⟩)⟩
theorem xj_out {post : Int32 → SX → Prop} (hp : p < 5) (hu : ux_up sp pn p l) (h : ∀ Q : SX → Prop, (∀ u, post 0 u → Q u) → wpX_endProcess Q (ql, pr, ex, kd, ns, np, wo, en, st, pp, sp, pc, pg, pn, rg, ds, fi, ow, po, pw, pl, qu, ou) (nI p) (-4)) : wpX_execute post (ql, pr, ex, kd, ns, np, wo, en, st, pp, sp, pc, pg, pn, rg, ds, fi, ow, po, pw, pl, qu, ou) (nI p) := by
  unfold wpX_execute
  exact xa_ip0 hp hu (br_t rfl (h _ (fun u hu => hu)))
end UX15X
