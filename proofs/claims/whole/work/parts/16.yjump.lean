section UX15Y
variable {ql pr go : Int32} {ex : Int64} {kd ns le wo en et np st qp sp pn pg rg ee ds pc fi ow po pl pw qu ou : Nat → Int32}
variable {p s l a b : Nat} {x : Int32}
def yk (post : Int32 → SY → Prop) (p : Nat) (x : Int32) (u : SY) : Prop := match u with
  | (ql, ex, pr, go, kd, le, wo, et, np, st, qp, sp, pn, pg, rg, ee, pc, fi, ow, po, pl, pw, qu, ou) => wY_execute_262 post (nI p) x ql ex pr go kd le wo et np st qp sp pn pg rg ee pc fi ow po pl pw qu ou
theorem y262a {post : Int32 → SY → Prop} (hp : p < 5) (hg : go = 1) (hx : ¬ x = 25) (h : post 1 (ql, ex, pr, go, kd, le, wo, et, np, st, qp, upd sp p (sp p + 1), pn, pg, rg, ee, pc, fi, ow, po, pl, pw, qu, ou)) : wY_execute_262 post (nI p) x ql ex pr go kd le wo et np st qp sp pn pg rg ee pc fi ow po pl pw qu ou := by
  unfold wY_execute_262
  rw [ux_c (by omega)]
  exact br_f (by rw [hg]; decide) ⟨vp_in_nI hp (by decide), vp_in_nI hp (by decide), nm_e (br_f hx h)⟩
theorem y262y {post : Int32 → SY → Prop} (hp : p < 5) (hg : go = 1) (h : post 0 (ql, ex, pr, go, kd, le, wo, et, np, st, qp, upd sp p (sp p + 1), pn, pg, rg, ee, pc, fi, ow, po, pl, pw, qu, ou)) : wY_execute_262 post (nI p) 25 ql ex pr go kd le wo et np st qp sp pn pg rg ee pc fi ow po pl pw qu ou := by
  unfold wY_execute_262
  rw [ux_c (by omega)]
  exact br_f (by rw [hg]; decide) ⟨vp_in_nI hp (by decide), vp_in_nI hp (by decide), nm_e (br_t rfl h)⟩
theorem y262e {post : Int32 → SY → Prop} (hg : go = 0) (h : post 0 (ql, ex, pr, go, kd, le, wo, et, np, st, qp, sp, pn, pg, rg, ee, pc, fi, ow, po, pl, pw, qu, ou)) : wY_execute_262 post (nI p) x ql ex pr go kd le wo et np st qp sp pn pg rg ee pc fi ow po pl pw qu ou := by
  unfold wY_execute_262
  exact br_t hg h

theorem yj_13 {post : Int32 → SY → Prop} (H : ux_in sp pn pg p s l a b 13) (h : ∀ Q : SY → Prop, (∀ u, yk post p 13 u → Q u) → wpY_open Q (ql, ex + 1, pr, 1, kd, le, wo, et, np, st, qp, sp, pn, pg, rg, ee, pc, fi, ow, po, pl, pw, qu, ou) (nI p) (nI a) ((pg (p * 20 + s) >>> ((9 : Int32) &&& 31)) &&& 3)) : wpY_execute post (ql, ex, pr, go, kd, le, wo, et, np, st, qp, sp, pn, pg, rg, ee, pc, fi, ow, po, pl, pw, qu, ou) (nI p) := by
  obtain ⟨hp, hi, ho, ha, ea, hb, eb⟩ := H
  obtain ⟨h1, h2, h3, h4⟩ := id hi
  have cl : (nI p).toNatClampNeg = p := ux_c (by omega)
  have iv : vp_in (nI p) 5 := vp_in_nI hp (by decide)
  have e20 : 20 * nI p + sp p = nI (p * 20 + s) := by rw [h3, ux_l_mul, nI_add, Nat.mul_comm]
  have e4 : 4 * nI p + nI a = nI (p * 4 + a) := by rw [ux_l_mul, nI_add, Nat.mul_comm]
  have f4 : 4 * nI p + nI b = nI (p * 4 + b) := by rw [ux_l_mul, nI_add, Nat.mul_comm]
  have ca : (nI (p * 4 + a)).toNatClampNeg = p * 4 + a := ux_c (by omega)
  have cb : (nI (p * 4 + b)).toNatClampNeg = p * 4 + b := ux_c (by omega)
  have va : vp_in (nI (p * 4 + a)) 20 := vp_in_nI (by omega) (by decide)
  have vb : vp_in (nI (p * 4 + b)) 20 := vp_in_nI (by omega) (by decide)
  have g1 : ¬ sp p < 0 := by rw [h3]; exact nI_pos (by omega)
  have g2 : ¬ pn p - 1 < sp p := by
    obtain ⟨t, rfl⟩ : ∃ t, l = t + 1 := ⟨l - 1, by omega⟩
    rw [h3, h4, nI_pred]; exact nI_nlt (by omega) (by omega)
  unfold wpY_execute
  dsimp only
  rw [cl, e20, ux_c (n := p * 20 + s) (by omega)]
  refine nm_e ⟨iv, iv, ya_inT g1 g2 (br_f (by decide) ⟨iv, vp_in_nI (by omega) (by decide), nm_e (nm_r ho (nm_r ea (nm_e ?_)))⟩)⟩
  rw [e4, ca]
  refine ⟨va, nm_e (br_f (by decide) <| br_f (by decide) <| br_t (by decide) <| br_f (by decide) <| br_f (by decide) <| br_t (by decide) <| ?_)⟩
  unfold wY_execute_227
  rw [eb]
  refine br_t rfl (h _ (fun u hu => ?_))
  obtain ⟨ql, ex, pr, go, kd, le, wo, et, np, st, qp, sp, pn, pg, rg, ee, pc, fi, ow, po, pl, pw, qu, ou⟩ := u
  exact br_f (by decide) <| br_f (by decide) <| br_f (by decide) <| br_f (by decide) <| br_f (by decide) <| br_f (by decide) <| br_f (by decide) <| br_f (by decide) <| br_f (by decide) <| br_f (by decide) <| br_f (by decide) <| hu
theorem yj_14 {post : Int32 → SY → Prop} (H : ux_in sp pn pg p s l a b 14) (h : ∀ Q : SY → Prop, (∀ u, yk post p 14 u → Q u) → wpY_close Q (ql, ex + 1, pr, 1, kd, le, wo, et, np, st, qp, sp, pn, pg, rg, ee, pc, fi, ow, po, pl, pw, qu, ou) (nI p) (nI b)) : wpY_execute post (ql, ex, pr, go, kd, le, wo, et, np, st, qp, sp, pn, pg, rg, ee, pc, fi, ow, po, pl, pw, qu, ou) (nI p) := by
  obtain ⟨hp, hi, ho, ha, ea, hb, eb⟩ := H
  obtain ⟨h1, h2, h3, h4⟩ := id hi
  have cl : (nI p).toNatClampNeg = p := ux_c (by omega)
  have iv : vp_in (nI p) 5 := vp_in_nI hp (by decide)
  have e20 : 20 * nI p + sp p = nI (p * 20 + s) := by rw [h3, ux_l_mul, nI_add, Nat.mul_comm]
  have e4 : 4 * nI p + nI a = nI (p * 4 + a) := by rw [ux_l_mul, nI_add, Nat.mul_comm]
  have f4 : 4 * nI p + nI b = nI (p * 4 + b) := by rw [ux_l_mul, nI_add, Nat.mul_comm]
  have ca : (nI (p * 4 + a)).toNatClampNeg = p * 4 + a := ux_c (by omega)
  have cb : (nI (p * 4 + b)).toNatClampNeg = p * 4 + b := ux_c (by omega)
  have va : vp_in (nI (p * 4 + a)) 20 := vp_in_nI (by omega) (by decide)
  have vb : vp_in (nI (p * 4 + b)) 20 := vp_in_nI (by omega) (by decide)
  have g1 : ¬ sp p < 0 := by rw [h3]; exact nI_pos (by omega)
  have g2 : ¬ pn p - 1 < sp p := by
    obtain ⟨t, rfl⟩ : ∃ t, l = t + 1 := ⟨l - 1, by omega⟩
    rw [h3, h4, nI_pred]; exact nI_nlt (by omega) (by omega)
  unfold wpY_execute
  dsimp only
  rw [cl, e20, ux_c (n := p * 20 + s) (by omega)]
  refine nm_e ⟨iv, iv, ya_inT g1 g2 (br_f (by decide) ⟨iv, vp_in_nI (by omega) (by decide), nm_e (nm_r ho (nm_r ea (nm_e ?_)))⟩)⟩
  rw [e4, ca]
  refine ⟨va, nm_e (br_f (by decide) <| br_f (by decide) <| br_t (by decide) <| br_f (by decide) <| br_f (by decide) <| br_t (by decide) <| ?_)⟩
  unfold wY_execute_227
  rw [eb]
  refine br_f (by decide) <| br_t rfl (h _ (fun u hu => ?_))
  obtain ⟨ql, ex, pr, go, kd, le, wo, et, np, st, qp, sp, pn, pg, rg, ee, pc, fi, ow, po, pl, pw, qu, ou⟩ := u
  exact br_f (by decide) <| br_f (by decide) <| br_f (by decide) <| br_f (by decide) <| br_f (by decide) <| br_f (by decide) <| br_f (by decide) <| br_f (by decide) <| br_f (by decide) <| br_f (by decide) <| hu
theorem yj_15 {post : Int32 → SY → Prop} (H : ux_in sp pn pg p s l a b 15) (h : ∀ Q : SY → Prop, (∀ u, yk post p 15 u → Q u) → wpY_read Q (ql, ex + 1, pr, 1, kd, le, wo, et, np, st, qp, sp, pn, pg, rg, ee, pc, fi, ow, po, pl, pw, qu, ou) (nI p) (nI a) (nI b)) : wpY_execute post (ql, ex, pr, go, kd, le, wo, et, np, st, qp, sp, pn, pg, rg, ee, pc, fi, ow, po, pl, pw, qu, ou) (nI p) := by
  obtain ⟨hp, hi, ho, ha, ea, hb, eb⟩ := H
  obtain ⟨h1, h2, h3, h4⟩ := id hi
  have cl : (nI p).toNatClampNeg = p := ux_c (by omega)
  have iv : vp_in (nI p) 5 := vp_in_nI hp (by decide)
  have e20 : 20 * nI p + sp p = nI (p * 20 + s) := by rw [h3, ux_l_mul, nI_add, Nat.mul_comm]
  have e4 : 4 * nI p + nI a = nI (p * 4 + a) := by rw [ux_l_mul, nI_add, Nat.mul_comm]
  have f4 : 4 * nI p + nI b = nI (p * 4 + b) := by rw [ux_l_mul, nI_add, Nat.mul_comm]
  have ca : (nI (p * 4 + a)).toNatClampNeg = p * 4 + a := ux_c (by omega)
  have cb : (nI (p * 4 + b)).toNatClampNeg = p * 4 + b := ux_c (by omega)
  have va : vp_in (nI (p * 4 + a)) 20 := vp_in_nI (by omega) (by decide)
  have vb : vp_in (nI (p * 4 + b)) 20 := vp_in_nI (by omega) (by decide)
  have g1 : ¬ sp p < 0 := by rw [h3]; exact nI_pos (by omega)
  have g2 : ¬ pn p - 1 < sp p := by
    obtain ⟨t, rfl⟩ : ∃ t, l = t + 1 := ⟨l - 1, by omega⟩
    rw [h3, h4, nI_pred]; exact nI_nlt (by omega) (by omega)
  unfold wpY_execute
  dsimp only
  rw [cl, e20, ux_c (n := p * 20 + s) (by omega)]
  refine nm_e ⟨iv, iv, ya_inT g1 g2 (br_f (by decide) ⟨iv, vp_in_nI (by omega) (by decide), nm_e (nm_r ho (nm_r ea (nm_e ?_)))⟩)⟩
  rw [e4, ca]
  refine ⟨va, nm_e (br_f (by decide) <| br_f (by decide) <| br_t (by decide) <| br_f (by decide) <| br_f (by decide) <| br_t (by decide) <| ?_)⟩
  unfold wY_execute_227
  rw [eb]
  refine br_f (by decide) <| br_f (by decide) <| br_t rfl (h _ (fun u hu => ?_))
  obtain ⟨ql, ex, pr, go, kd, le, wo, et, np, st, qp, sp, pn, pg, rg, ee, pc, fi, ow, po, pl, pw, qu, ou⟩ := u
  exact br_f (by decide) <| br_f (by decide) <| br_f (by decide) <| br_f (by decide) <| br_f (by decide) <| br_f (by decide) <| br_f (by decide) <| br_f (by decide) <| br_f (by decide) <| hu
theorem yj_16 {post : Int32 → SY → Prop} (H : ux_in sp pn pg p s l a b 16) (h : ∀ Q : SY → Prop, (∀ u, yk post p 16 u → Q u) → wpY_write Q (ql, ex + 1, pr, 1, kd, le, wo, et, np, st, qp, sp, pn, pg, rg, ee, pc, fi, ow, po, pl, pw, qu, ou) (nI p) (nI a) (nI b)) : wpY_execute post (ql, ex, pr, go, kd, le, wo, et, np, st, qp, sp, pn, pg, rg, ee, pc, fi, ow, po, pl, pw, qu, ou) (nI p) := by
  obtain ⟨hp, hi, ho, ha, ea, hb, eb⟩ := H
  obtain ⟨h1, h2, h3, h4⟩ := id hi
  have cl : (nI p).toNatClampNeg = p := ux_c (by omega)
  have iv : vp_in (nI p) 5 := vp_in_nI hp (by decide)
  have e20 : 20 * nI p + sp p = nI (p * 20 + s) := by rw [h3, ux_l_mul, nI_add, Nat.mul_comm]
  have e4 : 4 * nI p + nI a = nI (p * 4 + a) := by rw [ux_l_mul, nI_add, Nat.mul_comm]
  have f4 : 4 * nI p + nI b = nI (p * 4 + b) := by rw [ux_l_mul, nI_add, Nat.mul_comm]
  have ca : (nI (p * 4 + a)).toNatClampNeg = p * 4 + a := ux_c (by omega)
  have cb : (nI (p * 4 + b)).toNatClampNeg = p * 4 + b := ux_c (by omega)
  have va : vp_in (nI (p * 4 + a)) 20 := vp_in_nI (by omega) (by decide)
  have vb : vp_in (nI (p * 4 + b)) 20 := vp_in_nI (by omega) (by decide)
  have g1 : ¬ sp p < 0 := by rw [h3]; exact nI_pos (by omega)
  have g2 : ¬ pn p - 1 < sp p := by
    obtain ⟨t, rfl⟩ : ∃ t, l = t + 1 := ⟨l - 1, by omega⟩
    rw [h3, h4, nI_pred]; exact nI_nlt (by omega) (by omega)
  unfold wpY_execute
  dsimp only
  rw [cl, e20, ux_c (n := p * 20 + s) (by omega)]
  refine nm_e ⟨iv, iv, ya_inT g1 g2 (br_f (by decide) ⟨iv, vp_in_nI (by omega) (by decide), nm_e (nm_r ho (nm_r ea (nm_e ?_)))⟩)⟩
  rw [e4, ca]
  refine ⟨va, nm_e (br_f (by decide) <| br_f (by decide) <| br_t (by decide) <| br_f (by decide) <| br_f (by decide) <| br_t (by decide) <| ?_)⟩
  unfold wY_execute_227
  rw [eb]
  refine br_f (by decide) <| br_f (by decide) <| br_f (by decide) <| br_t rfl (h _ (fun u hu => ?_))
  obtain ⟨ql, ex, pr, go, kd, le, wo, et, np, st, qp, sp, pn, pg, rg, ee, pc, fi, ow, po, pl, pw, qu, ou⟩ := u
  exact br_f (by decide) <| br_f (by decide) <| br_f (by decide) <| br_f (by decide) <| br_f (by decide) <| br_f (by decide) <| br_f (by decide) <| br_f (by decide) <| hu
theorem yj_17 {post : Int32 → SY → Prop} (H : ux_in sp pn pg p s l a b 17) (h : ∀ Q : SY → Prop, (∀ u, yk post p 17 u → Q u) → wpY_pipeNew Q (ql, ex + 1, pr, 1, kd, le, wo, et, np, st, qp, sp, pn, pg, rg, ee, pc, fi, ow, po, pl, pw, qu, ou) (nI p) (nI a) (nI b)) : wpY_execute post (ql, ex, pr, go, kd, le, wo, et, np, st, qp, sp, pn, pg, rg, ee, pc, fi, ow, po, pl, pw, qu, ou) (nI p) := by
  obtain ⟨hp, hi, ho, ha, ea, hb, eb⟩ := H
  obtain ⟨h1, h2, h3, h4⟩ := id hi
  have cl : (nI p).toNatClampNeg = p := ux_c (by omega)
  have iv : vp_in (nI p) 5 := vp_in_nI hp (by decide)
  have e20 : 20 * nI p + sp p = nI (p * 20 + s) := by rw [h3, ux_l_mul, nI_add, Nat.mul_comm]
  have e4 : 4 * nI p + nI a = nI (p * 4 + a) := by rw [ux_l_mul, nI_add, Nat.mul_comm]
  have f4 : 4 * nI p + nI b = nI (p * 4 + b) := by rw [ux_l_mul, nI_add, Nat.mul_comm]
  have ca : (nI (p * 4 + a)).toNatClampNeg = p * 4 + a := ux_c (by omega)
  have cb : (nI (p * 4 + b)).toNatClampNeg = p * 4 + b := ux_c (by omega)
  have va : vp_in (nI (p * 4 + a)) 20 := vp_in_nI (by omega) (by decide)
  have vb : vp_in (nI (p * 4 + b)) 20 := vp_in_nI (by omega) (by decide)
  have g1 : ¬ sp p < 0 := by rw [h3]; exact nI_pos (by omega)
  have g2 : ¬ pn p - 1 < sp p := by
    obtain ⟨t, rfl⟩ : ∃ t, l = t + 1 := ⟨l - 1, by omega⟩
    rw [h3, h4, nI_pred]; exact nI_nlt (by omega) (by omega)
  unfold wpY_execute
  dsimp only
  rw [cl, e20, ux_c (n := p * 20 + s) (by omega)]
  refine nm_e ⟨iv, iv, ya_inT g1 g2 (br_f (by decide) ⟨iv, vp_in_nI (by omega) (by decide), nm_e (nm_r ho (nm_r ea (nm_e ?_)))⟩)⟩
  rw [e4, ca]
  refine ⟨va, nm_e (br_f (by decide) <| br_f (by decide) <| br_t (by decide) <| br_f (by decide) <| br_f (by decide) <| br_t (by decide) <| ?_)⟩
  unfold wY_execute_227
  rw [eb]
  refine br_f (by decide) <| br_f (by decide) <| br_f (by decide) <| br_f (by decide) <| br_t rfl (h _ (fun u hu => ?_))
  obtain ⟨ql, ex, pr, go, kd, le, wo, et, np, st, qp, sp, pn, pg, rg, ee, pc, fi, ow, po, pl, pw, qu, ou⟩ := u
  exact br_f (by decide) <| br_f (by decide) <| br_f (by decide) <| br_f (by decide) <| br_f (by decide) <| br_f (by decide) <| br_f (by decide) <| hu
theorem yj_18 {post : Int32 → SY → Prop} (H : ux_in sp pn pg p s l a b 18) (h : ∀ Q : SY → Prop, (∀ u, yk post p 18 u → Q u) → wpY_copy Q (ql, ex + 1, pr, 1, kd, le, wo, et, np, st, qp, sp, pn, pg, rg, ee, pc, fi, ow, po, pl, pw, qu, ou) (nI p) (nI a) (nI b)) : wpY_execute post (ql, ex, pr, go, kd, le, wo, et, np, st, qp, sp, pn, pg, rg, ee, pc, fi, ow, po, pl, pw, qu, ou) (nI p) := by
  obtain ⟨hp, hi, ho, ha, ea, hb, eb⟩ := H
  obtain ⟨h1, h2, h3, h4⟩ := id hi
  have cl : (nI p).toNatClampNeg = p := ux_c (by omega)
  have iv : vp_in (nI p) 5 := vp_in_nI hp (by decide)
  have e20 : 20 * nI p + sp p = nI (p * 20 + s) := by rw [h3, ux_l_mul, nI_add, Nat.mul_comm]
  have e4 : 4 * nI p + nI a = nI (p * 4 + a) := by rw [ux_l_mul, nI_add, Nat.mul_comm]
  have f4 : 4 * nI p + nI b = nI (p * 4 + b) := by rw [ux_l_mul, nI_add, Nat.mul_comm]
  have ca : (nI (p * 4 + a)).toNatClampNeg = p * 4 + a := ux_c (by omega)
  have cb : (nI (p * 4 + b)).toNatClampNeg = p * 4 + b := ux_c (by omega)
  have va : vp_in (nI (p * 4 + a)) 20 := vp_in_nI (by omega) (by decide)
  have vb : vp_in (nI (p * 4 + b)) 20 := vp_in_nI (by omega) (by decide)
  have g1 : ¬ sp p < 0 := by rw [h3]; exact nI_pos (by omega)
  have g2 : ¬ pn p - 1 < sp p := by
    obtain ⟨t, rfl⟩ : ∃ t, l = t + 1 := ⟨l - 1, by omega⟩
    rw [h3, h4, nI_pred]; exact nI_nlt (by omega) (by omega)
  unfold wpY_execute
  dsimp only
  rw [cl, e20, ux_c (n := p * 20 + s) (by omega)]
  refine nm_e ⟨iv, iv, ya_inT g1 g2 (br_f (by decide) ⟨iv, vp_in_nI (by omega) (by decide), nm_e (nm_r ho (nm_r ea (nm_e ?_)))⟩)⟩
  rw [e4, ca]
  refine ⟨va, nm_e (br_f (by decide) <| br_f (by decide) <| br_t (by decide) <| br_f (by decide) <| br_f (by decide) <| br_t (by decide) <| ?_)⟩
  unfold wY_execute_227
  rw [eb]
  refine br_f (by decide) <| br_f (by decide) <| br_f (by decide) <| br_f (by decide) <| br_f (by decide) <| br_t rfl (h _ (fun u hu => ?_))
  obtain ⟨ql, ex, pr, go, kd, le, wo, et, np, st, qp, sp, pn, pg, rg, ee, pc, fi, ow, po, pl, pw, qu, ou⟩ := u
  exact br_f (by decide) <| br_f (by decide) <| br_f (by decide) <| br_f (by decide) <| br_f (by decide) <| br_f (by decide) <| hu
theorem yj_19 {post : Int32 → SY → Prop} (H : ux_in sp pn pg p s l a b 19) (h : ∀ Q : SY → Prop, (∀ u, yk post p 19 u → Q u) → wpY_seek Q (ql, ex + 1, pr, 1, kd, le, wo, et, np, st, qp, sp, pn, pg, rg, ee, pc, fi, ow, po, pl, pw, qu, ou) (nI p) (nI a) (nI b)) : wpY_execute post (ql, ex, pr, go, kd, le, wo, et, np, st, qp, sp, pn, pg, rg, ee, pc, fi, ow, po, pl, pw, qu, ou) (nI p) := by
  obtain ⟨hp, hi, ho, ha, ea, hb, eb⟩ := H
  obtain ⟨h1, h2, h3, h4⟩ := id hi
  have cl : (nI p).toNatClampNeg = p := ux_c (by omega)
  have iv : vp_in (nI p) 5 := vp_in_nI hp (by decide)
  have e20 : 20 * nI p + sp p = nI (p * 20 + s) := by rw [h3, ux_l_mul, nI_add, Nat.mul_comm]
  have e4 : 4 * nI p + nI a = nI (p * 4 + a) := by rw [ux_l_mul, nI_add, Nat.mul_comm]
  have f4 : 4 * nI p + nI b = nI (p * 4 + b) := by rw [ux_l_mul, nI_add, Nat.mul_comm]
  have ca : (nI (p * 4 + a)).toNatClampNeg = p * 4 + a := ux_c (by omega)
  have cb : (nI (p * 4 + b)).toNatClampNeg = p * 4 + b := ux_c (by omega)
  have va : vp_in (nI (p * 4 + a)) 20 := vp_in_nI (by omega) (by decide)
  have vb : vp_in (nI (p * 4 + b)) 20 := vp_in_nI (by omega) (by decide)
  have g1 : ¬ sp p < 0 := by rw [h3]; exact nI_pos (by omega)
  have g2 : ¬ pn p - 1 < sp p := by
    obtain ⟨t, rfl⟩ : ∃ t, l = t + 1 := ⟨l - 1, by omega⟩
    rw [h3, h4, nI_pred]; exact nI_nlt (by omega) (by omega)
  unfold wpY_execute
  dsimp only
  rw [cl, e20, ux_c (n := p * 20 + s) (by omega)]
  refine nm_e ⟨iv, iv, ya_inT g1 g2 (br_f (by decide) ⟨iv, vp_in_nI (by omega) (by decide), nm_e (nm_r ho (nm_r ea (nm_e ?_)))⟩)⟩
  rw [e4, ca]
  refine ⟨va, nm_e (br_f (by decide) <| br_f (by decide) <| br_t (by decide) <| br_f (by decide) <| br_f (by decide) <| br_t (by decide) <| ?_)⟩
  unfold wY_execute_227
  rw [eb]
  refine br_f (by decide) <| br_f (by decide) <| br_f (by decide) <| br_f (by decide) <| br_f (by decide) <| br_f (by decide) <| br_t rfl (h _ (fun u hu => ?_))
  obtain ⟨ql, ex, pr, go, kd, le, wo, et, np, st, qp, sp, pn, pg, rg, ee, pc, fi, ow, po, pl, pw, qu, ou⟩ := u
  exact br_f (by decide) <| br_f (by decide) <| br_f (by decide) <| br_f (by decide) <| br_f (by decide) <| hu
theorem yj_20 {post : Int32 → SY → Prop} (H : ux_in sp pn pg p s l a b 20) (h : ∀ Q : SY → Prop, (∀ u, yk post p 20 u → Q u) → wpY_makeDirectory Q (ql, ex + 1, pr, 1, kd, le, wo, et, np, st, qp, sp, pn, pg, rg, ee, pc, fi, ow, po, pl, pw, qu, ou) (nI p) (nI a)) : wpY_execute post (ql, ex, pr, go, kd, le, wo, et, np, st, qp, sp, pn, pg, rg, ee, pc, fi, ow, po, pl, pw, qu, ou) (nI p) := by
  obtain ⟨hp, hi, ho, ha, ea, hb, eb⟩ := H
  obtain ⟨h1, h2, h3, h4⟩ := id hi
  have cl : (nI p).toNatClampNeg = p := ux_c (by omega)
  have iv : vp_in (nI p) 5 := vp_in_nI hp (by decide)
  have e20 : 20 * nI p + sp p = nI (p * 20 + s) := by rw [h3, ux_l_mul, nI_add, Nat.mul_comm]
  have e4 : 4 * nI p + nI a = nI (p * 4 + a) := by rw [ux_l_mul, nI_add, Nat.mul_comm]
  have f4 : 4 * nI p + nI b = nI (p * 4 + b) := by rw [ux_l_mul, nI_add, Nat.mul_comm]
  have ca : (nI (p * 4 + a)).toNatClampNeg = p * 4 + a := ux_c (by omega)
  have cb : (nI (p * 4 + b)).toNatClampNeg = p * 4 + b := ux_c (by omega)
  have va : vp_in (nI (p * 4 + a)) 20 := vp_in_nI (by omega) (by decide)
  have vb : vp_in (nI (p * 4 + b)) 20 := vp_in_nI (by omega) (by decide)
  have g1 : ¬ sp p < 0 := by rw [h3]; exact nI_pos (by omega)
  have g2 : ¬ pn p - 1 < sp p := by
    obtain ⟨t, rfl⟩ : ∃ t, l = t + 1 := ⟨l - 1, by omega⟩
    rw [h3, h4, nI_pred]; exact nI_nlt (by omega) (by omega)
  unfold wpY_execute
  dsimp only
  rw [cl, e20, ux_c (n := p * 20 + s) (by omega)]
  refine nm_e ⟨iv, iv, ya_inT g1 g2 (br_f (by decide) ⟨iv, vp_in_nI (by omega) (by decide), nm_e (nm_r ho (nm_r ea (nm_e ?_)))⟩)⟩
  rw [e4, ca]
  refine ⟨va, nm_e (br_f (by decide) <| br_f (by decide) <| br_t (by decide) <| br_f (by decide) <| br_f (by decide) <| br_t (by decide) <| ?_)⟩
  unfold wY_execute_227
  rw [eb]
  refine br_f (by decide) <| br_f (by decide) <| br_f (by decide) <| br_f (by decide) <| br_f (by decide) <| br_f (by decide) <| br_f (by decide) <| br_t rfl (h _ (fun u hu => ?_))
  obtain ⟨ql, ex, pr, go, kd, le, wo, et, np, st, qp, sp, pn, pg, rg, ee, pc, fi, ow, po, pl, pw, qu, ou⟩ := u
  exact br_f (by decide) <| br_f (by decide) <| br_f (by decide) <| br_f (by decide) <| hu
theorem yj_21 {post : Int32 → SY → Prop} (H : ux_in sp pn pg p s l a b 21) (h : ∀ Q : SY → Prop, (∀ u, yk post p 21 u → Q u) → wpY_go Q (ql, ex + 1, pr, 1, kd, le, wo, et, np, st, qp, sp, pn, pg, rg, ee, pc, fi, ow, po, pl, pw, qu, ou) (nI p) (nI a)) : wpY_execute post (ql, ex, pr, go, kd, le, wo, et, np, st, qp, sp, pn, pg, rg, ee, pc, fi, ow, po, pl, pw, qu, ou) (nI p) := by
  obtain ⟨hp, hi, ho, ha, ea, hb, eb⟩ := H
  obtain ⟨h1, h2, h3, h4⟩ := id hi
  have cl : (nI p).toNatClampNeg = p := ux_c (by omega)
  have iv : vp_in (nI p) 5 := vp_in_nI hp (by decide)
  have e20 : 20 * nI p + sp p = nI (p * 20 + s) := by rw [h3, ux_l_mul, nI_add, Nat.mul_comm]
  have e4 : 4 * nI p + nI a = nI (p * 4 + a) := by rw [ux_l_mul, nI_add, Nat.mul_comm]
  have f4 : 4 * nI p + nI b = nI (p * 4 + b) := by rw [ux_l_mul, nI_add, Nat.mul_comm]
  have ca : (nI (p * 4 + a)).toNatClampNeg = p * 4 + a := ux_c (by omega)
  have cb : (nI (p * 4 + b)).toNatClampNeg = p * 4 + b := ux_c (by omega)
  have va : vp_in (nI (p * 4 + a)) 20 := vp_in_nI (by omega) (by decide)
  have vb : vp_in (nI (p * 4 + b)) 20 := vp_in_nI (by omega) (by decide)
  have g1 : ¬ sp p < 0 := by rw [h3]; exact nI_pos (by omega)
  have g2 : ¬ pn p - 1 < sp p := by
    obtain ⟨t, rfl⟩ : ∃ t, l = t + 1 := ⟨l - 1, by omega⟩
    rw [h3, h4, nI_pred]; exact nI_nlt (by omega) (by omega)
  unfold wpY_execute
  dsimp only
  rw [cl, e20, ux_c (n := p * 20 + s) (by omega)]
  refine nm_e ⟨iv, iv, ya_inT g1 g2 (br_f (by decide) ⟨iv, vp_in_nI (by omega) (by decide), nm_e (nm_r ho (nm_r ea (nm_e ?_)))⟩)⟩
  rw [e4, ca]
  refine ⟨va, nm_e (br_f (by decide) <| br_f (by decide) <| br_t (by decide) <| br_f (by decide) <| br_f (by decide) <| br_t (by decide) <| ?_)⟩
  unfold wY_execute_227
  rw [eb]
  refine br_f (by decide) <| br_f (by decide) <| br_f (by decide) <| br_f (by decide) <| br_f (by decide) <| br_f (by decide) <| br_f (by decide) <| br_f (by decide) <| br_t rfl (h _ (fun u hu => ?_))
  obtain ⟨ql, ex, pr, go, kd, le, wo, et, np, st, qp, sp, pn, pg, rg, ee, pc, fi, ow, po, pl, pw, qu, ou⟩ := u
  exact br_f (by decide) <| br_f (by decide) <| br_f (by decide) <| hu
theorem yj_22 {post : Int32 → SY → Prop} (H : ux_in sp pn pg p s l a b 22) (h : ∀ Q : SY → Prop, (∀ u, yk post p 22 u → Q u) → wpY_link Q (ql, ex + 1, pr, 1, kd, le, wo, et, np, st, qp, sp, pn, pg, rg, ee, pc, fi, ow, po, pl, pw, qu, ou) (nI p) (nI a) (nI b)) : wpY_execute post (ql, ex, pr, go, kd, le, wo, et, np, st, qp, sp, pn, pg, rg, ee, pc, fi, ow, po, pl, pw, qu, ou) (nI p) := by
  obtain ⟨hp, hi, ho, ha, ea, hb, eb⟩ := H
  obtain ⟨h1, h2, h3, h4⟩ := id hi
  have cl : (nI p).toNatClampNeg = p := ux_c (by omega)
  have iv : vp_in (nI p) 5 := vp_in_nI hp (by decide)
  have e20 : 20 * nI p + sp p = nI (p * 20 + s) := by rw [h3, ux_l_mul, nI_add, Nat.mul_comm]
  have e4 : 4 * nI p + nI a = nI (p * 4 + a) := by rw [ux_l_mul, nI_add, Nat.mul_comm]
  have f4 : 4 * nI p + nI b = nI (p * 4 + b) := by rw [ux_l_mul, nI_add, Nat.mul_comm]
  have ca : (nI (p * 4 + a)).toNatClampNeg = p * 4 + a := ux_c (by omega)
  have cb : (nI (p * 4 + b)).toNatClampNeg = p * 4 + b := ux_c (by omega)
  have va : vp_in (nI (p * 4 + a)) 20 := vp_in_nI (by omega) (by decide)
  have vb : vp_in (nI (p * 4 + b)) 20 := vp_in_nI (by omega) (by decide)
  have g1 : ¬ sp p < 0 := by rw [h3]; exact nI_pos (by omega)
  have g2 : ¬ pn p - 1 < sp p := by
    obtain ⟨t, rfl⟩ : ∃ t, l = t + 1 := ⟨l - 1, by omega⟩
    rw [h3, h4, nI_pred]; exact nI_nlt (by omega) (by omega)
  unfold wpY_execute
  dsimp only
  rw [cl, e20, ux_c (n := p * 20 + s) (by omega)]
  refine nm_e ⟨iv, iv, ya_inT g1 g2 (br_f (by decide) ⟨iv, vp_in_nI (by omega) (by decide), nm_e (nm_r ho (nm_r ea (nm_e ?_)))⟩)⟩
  rw [e4, ca]
  refine ⟨va, nm_e (br_f (by decide) <| br_f (by decide) <| br_t (by decide) <| br_f (by decide) <| br_f (by decide) <| br_t (by decide) <| ?_)⟩
  unfold wY_execute_227
  rw [eb]
  refine br_f (by decide) <| br_f (by decide) <| br_f (by decide) <| br_f (by decide) <| br_f (by decide) <| br_f (by decide) <| br_f (by decide) <| br_f (by decide) <| br_f (by decide) <| br_t rfl (h _ (fun u hu => ?_))
  obtain ⟨ql, ex, pr, go, kd, le, wo, et, np, st, qp, sp, pn, pg, rg, ee, pc, fi, ow, po, pl, pw, qu, ou⟩ := u
  exact br_f (by decide) <| br_f (by decide) <| hu
theorem yj_23 {post : Int32 → SY → Prop} (H : ux_in sp pn pg p s l a b 23) (h : ∀ Q : SY → Prop, (∀ u, yk post p 23 u → Q u) → wpY_remove Q (ql, ex + 1, pr, 1, kd, le, wo, et, np, st, qp, sp, pn, pg, rg, ee, pc, fi, ow, po, pl, pw, qu, ou) (nI p) (nI a)) : wpY_execute post (ql, ex, pr, go, kd, le, wo, et, np, st, qp, sp, pn, pg, rg, ee, pc, fi, ow, po, pl, pw, qu, ou) (nI p) := by
  obtain ⟨hp, hi, ho, ha, ea, hb, eb⟩ := H
  obtain ⟨h1, h2, h3, h4⟩ := id hi
  have cl : (nI p).toNatClampNeg = p := ux_c (by omega)
  have iv : vp_in (nI p) 5 := vp_in_nI hp (by decide)
  have e20 : 20 * nI p + sp p = nI (p * 20 + s) := by rw [h3, ux_l_mul, nI_add, Nat.mul_comm]
  have e4 : 4 * nI p + nI a = nI (p * 4 + a) := by rw [ux_l_mul, nI_add, Nat.mul_comm]
  have f4 : 4 * nI p + nI b = nI (p * 4 + b) := by rw [ux_l_mul, nI_add, Nat.mul_comm]
  have ca : (nI (p * 4 + a)).toNatClampNeg = p * 4 + a := ux_c (by omega)
  have cb : (nI (p * 4 + b)).toNatClampNeg = p * 4 + b := ux_c (by omega)
  have va : vp_in (nI (p * 4 + a)) 20 := vp_in_nI (by omega) (by decide)
  have vb : vp_in (nI (p * 4 + b)) 20 := vp_in_nI (by omega) (by decide)
  have g1 : ¬ sp p < 0 := by rw [h3]; exact nI_pos (by omega)
  have g2 : ¬ pn p - 1 < sp p := by
    obtain ⟨t, rfl⟩ : ∃ t, l = t + 1 := ⟨l - 1, by omega⟩
    rw [h3, h4, nI_pred]; exact nI_nlt (by omega) (by omega)
  unfold wpY_execute
  dsimp only
  rw [cl, e20, ux_c (n := p * 20 + s) (by omega)]
  refine nm_e ⟨iv, iv, ya_inT g1 g2 (br_f (by decide) ⟨iv, vp_in_nI (by omega) (by decide), nm_e (nm_r ho (nm_r ea (nm_e ?_)))⟩)⟩
  rw [e4, ca]
  refine ⟨va, nm_e (br_f (by decide) <| br_f (by decide) <| br_t (by decide) <| br_f (by decide) <| br_f (by decide) <| br_t (by decide) <| ?_)⟩
  unfold wY_execute_227
  rw [eb]
  refine br_f (by decide) <| br_f (by decide) <| br_f (by decide) <| br_f (by decide) <| br_f (by decide) <| br_f (by decide) <| br_f (by decide) <| br_f (by decide) <| br_f (by decide) <| br_f (by decide) <| br_t rfl (h _ (fun u hu => ?_))
  obtain ⟨ql, ex, pr, go, kd, le, wo, et, np, st, qp, sp, pn, pg, rg, ee, pc, fi, ow, po, pl, pw, qu, ou⟩ := u
  exact br_f (by decide) <| hu
theorem yj_28 {post : Int32 → SY → Prop} (H : ux_in sp pn pg p s l a b 28) (h : ∀ Q : SY → Prop, (∀ u, yk post p 28 u → Q u) → wpY_killOther Q (ql, ex + 1, pr, 1, kd, le, wo, et, np, st, qp, sp, pn, pg, rg, ee, pc, fi, ow, po, pl, pw, qu, ou) (nI p) (nI a)) : wpY_execute post (ql, ex, pr, go, kd, le, wo, et, np, st, qp, sp, pn, pg, rg, ee, pc, fi, ow, po, pl, pw, qu, ou) (nI p) := by
  obtain ⟨hp, hi, ho, ha, ea, hb, eb⟩ := H
  obtain ⟨h1, h2, h3, h4⟩ := id hi
  have cl : (nI p).toNatClampNeg = p := ux_c (by omega)
  have iv : vp_in (nI p) 5 := vp_in_nI hp (by decide)
  have e20 : 20 * nI p + sp p = nI (p * 20 + s) := by rw [h3, ux_l_mul, nI_add, Nat.mul_comm]
  have e4 : 4 * nI p + nI a = nI (p * 4 + a) := by rw [ux_l_mul, nI_add, Nat.mul_comm]
  have f4 : 4 * nI p + nI b = nI (p * 4 + b) := by rw [ux_l_mul, nI_add, Nat.mul_comm]
  have ca : (nI (p * 4 + a)).toNatClampNeg = p * 4 + a := ux_c (by omega)
  have cb : (nI (p * 4 + b)).toNatClampNeg = p * 4 + b := ux_c (by omega)
  have va : vp_in (nI (p * 4 + a)) 20 := vp_in_nI (by omega) (by decide)
  have vb : vp_in (nI (p * 4 + b)) 20 := vp_in_nI (by omega) (by decide)
  have g1 : ¬ sp p < 0 := by rw [h3]; exact nI_pos (by omega)
  have g2 : ¬ pn p - 1 < sp p := by
    obtain ⟨t, rfl⟩ : ∃ t, l = t + 1 := ⟨l - 1, by omega⟩
    rw [h3, h4, nI_pred]; exact nI_nlt (by omega) (by omega)
  unfold wpY_execute
  dsimp only
  rw [cl, e20, ux_c (n := p * 20 + s) (by omega)]
  refine nm_e ⟨iv, iv, ya_inT g1 g2 (br_f (by decide) ⟨iv, vp_in_nI (by omega) (by decide), nm_e (nm_r ho (nm_r ea (nm_e ?_)))⟩)⟩
  rw [e4, ca]
  refine ⟨va, nm_e (br_f (by decide) <| br_f (by decide) <| br_t (by decide) <| br_f (by decide) <| br_f (by decide) <| br_f (by decide) <| br_t rfl <| ?_)⟩
  unfold wY_execute_227
  rw [eb]
  refine br_f (by decide) <| br_f (by decide) <| br_f (by decide) <| br_f (by decide) <| br_f (by decide) <| br_f (by decide) <| br_f (by decide) <| br_f (by decide) <| br_f (by decide) <| br_f (by decide) <| br_f (by decide) <| br_t rfl (h _ (fun u hu => ?_))
  obtain ⟨ql, ex, pr, go, kd, le, wo, et, np, st, qp, sp, pn, pg, rg, ee, pc, fi, ow, po, pl, pw, qu, ou⟩ := u
  exact hu
theorem yj_1 {post : Int32 → SY → Prop} (H : ux_in sp pn pg p s l a b 1) (h : wY_execute_262 post (nI p) 1 ql (ex + 1) pr 1 kd le wo et np st qp sp pn pg (upd rg (p * 4 + a) ((pg (p * 20 + s) >>> ((9 : Int32) &&& 31)))) ee pc fi ow po pl pw qu ou) : wpY_execute post (ql, ex, pr, go, kd, le, wo, et, np, st, qp, sp, pn, pg, rg, ee, pc, fi, ow, po, pl, pw, qu, ou) (nI p) := by
  obtain ⟨hp, hi, ho, ha, ea, hb, eb⟩ := H
  obtain ⟨h1, h2, h3, h4⟩ := id hi
  have cl : (nI p).toNatClampNeg = p := ux_c (by omega)
  have iv : vp_in (nI p) 5 := vp_in_nI hp (by decide)
  have e20 : 20 * nI p + sp p = nI (p * 20 + s) := by rw [h3, ux_l_mul, nI_add, Nat.mul_comm]
  have e4 : 4 * nI p + nI a = nI (p * 4 + a) := by rw [ux_l_mul, nI_add, Nat.mul_comm]
  have f4 : 4 * nI p + nI b = nI (p * 4 + b) := by rw [ux_l_mul, nI_add, Nat.mul_comm]
  have ca : (nI (p * 4 + a)).toNatClampNeg = p * 4 + a := ux_c (by omega)
  have cb : (nI (p * 4 + b)).toNatClampNeg = p * 4 + b := ux_c (by omega)
  have va : vp_in (nI (p * 4 + a)) 20 := vp_in_nI (by omega) (by decide)
  have vb : vp_in (nI (p * 4 + b)) 20 := vp_in_nI (by omega) (by decide)
  have g1 : ¬ sp p < 0 := by rw [h3]; exact nI_pos (by omega)
  have g2 : ¬ pn p - 1 < sp p := by
    obtain ⟨t, rfl⟩ : ∃ t, l = t + 1 := ⟨l - 1, by omega⟩
    rw [h3, h4, nI_pred]; exact nI_nlt (by omega) (by omega)
  unfold wpY_execute
  dsimp only
  rw [cl, e20, ux_c (n := p * 20 + s) (by omega)]
  refine nm_e ⟨iv, iv, ya_inT g1 g2 (br_f (by decide) ⟨iv, vp_in_nI (by omega) (by decide), nm_e (nm_r ho (nm_r ea (nm_e ?_)))⟩)⟩
  rw [e4, ca]
  refine ⟨va, nm_e (br_f (by decide) <| br_t (by decide) <| br_f (by decide) <| br_t (by decide) <| br_f (by decide) <| ?_)⟩
  unfold wpY_simple
  dsimp only
  rw [eb, e4, f4, cb]
  refine nm_e ⟨va, ?_⟩
  rw [ca]
  refine nm_e ⟨vb, nm_e ?_⟩
  refine br_t rfl ⟨va, ?_⟩
  exact nm_e (br_f (by decide) <| br_f (by decide) <| br_f (by decide) <| br_f (by decide) <| br_f (by decide) <| br_f (by decide) <| br_f (by decide) <| br_f (by decide) <| br_f (by decide) <| br_f (by decide) <| h)
theorem yj_2 {post : Int32 → SY → Prop} (H : ux_in sp pn pg p s l a b 2) (h : wY_execute_262 post (nI p) 2 ql (ex + 1) pr 1 kd le wo et np st qp sp pn pg (upd rg (p * 4 + a) (rg (p * 4 + b))) ee pc fi ow po pl pw qu ou) : wpY_execute post (ql, ex, pr, go, kd, le, wo, et, np, st, qp, sp, pn, pg, rg, ee, pc, fi, ow, po, pl, pw, qu, ou) (nI p) := by
  obtain ⟨hp, hi, ho, ha, ea, hb, eb⟩ := H
  obtain ⟨h1, h2, h3, h4⟩ := id hi
  have cl : (nI p).toNatClampNeg = p := ux_c (by omega)
  have iv : vp_in (nI p) 5 := vp_in_nI hp (by decide)
  have e20 : 20 * nI p + sp p = nI (p * 20 + s) := by rw [h3, ux_l_mul, nI_add, Nat.mul_comm]
  have e4 : 4 * nI p + nI a = nI (p * 4 + a) := by rw [ux_l_mul, nI_add, Nat.mul_comm]
  have f4 : 4 * nI p + nI b = nI (p * 4 + b) := by rw [ux_l_mul, nI_add, Nat.mul_comm]
  have ca : (nI (p * 4 + a)).toNatClampNeg = p * 4 + a := ux_c (by omega)
  have cb : (nI (p * 4 + b)).toNatClampNeg = p * 4 + b := ux_c (by omega)
  have va : vp_in (nI (p * 4 + a)) 20 := vp_in_nI (by omega) (by decide)
  have vb : vp_in (nI (p * 4 + b)) 20 := vp_in_nI (by omega) (by decide)
  have g1 : ¬ sp p < 0 := by rw [h3]; exact nI_pos (by omega)
  have g2 : ¬ pn p - 1 < sp p := by
    obtain ⟨t, rfl⟩ : ∃ t, l = t + 1 := ⟨l - 1, by omega⟩
    rw [h3, h4, nI_pred]; exact nI_nlt (by omega) (by omega)
  unfold wpY_execute
  dsimp only
  rw [cl, e20, ux_c (n := p * 20 + s) (by omega)]
  refine nm_e ⟨iv, iv, ya_inT g1 g2 (br_f (by decide) ⟨iv, vp_in_nI (by omega) (by decide), nm_e (nm_r ho (nm_r ea (nm_e ?_)))⟩)⟩
  rw [e4, ca]
  refine ⟨va, nm_e (br_f (by decide) <| br_t (by decide) <| br_f (by decide) <| br_t (by decide) <| br_f (by decide) <| ?_)⟩
  unfold wpY_simple
  dsimp only
  rw [eb, e4, f4, cb]
  refine nm_e ⟨va, ?_⟩
  rw [ca]
  refine nm_e ⟨vb, nm_e ?_⟩
  refine br_f (by decide) <| br_t rfl ⟨va, ?_⟩
  rw [ca]
  exact nm_e (br_f (by decide) <| br_f (by decide) <| br_f (by decide) <| br_f (by decide) <| br_f (by decide) <| br_f (by decide) <| br_f (by decide) <| br_f (by decide) <| br_f (by decide) <| h)
theorem yj_3 {post : Int32 → SY → Prop} (H : ux_in sp pn pg p s l a b 3) (h : wY_execute_262 post (nI p) 3 ql (ex + 1) pr 1 kd le wo et np st qp sp pn pg (upd rg (p * 4 + a) (rg (p * 4 + a) + rg (p * 4 + b))) ee pc fi ow po pl pw qu ou) : wpY_execute post (ql, ex, pr, go, kd, le, wo, et, np, st, qp, sp, pn, pg, rg, ee, pc, fi, ow, po, pl, pw, qu, ou) (nI p) := by
  obtain ⟨hp, hi, ho, ha, ea, hb, eb⟩ := H
  obtain ⟨h1, h2, h3, h4⟩ := id hi
  have cl : (nI p).toNatClampNeg = p := ux_c (by omega)
  have iv : vp_in (nI p) 5 := vp_in_nI hp (by decide)
  have e20 : 20 * nI p + sp p = nI (p * 20 + s) := by rw [h3, ux_l_mul, nI_add, Nat.mul_comm]
  have e4 : 4 * nI p + nI a = nI (p * 4 + a) := by rw [ux_l_mul, nI_add, Nat.mul_comm]
  have f4 : 4 * nI p + nI b = nI (p * 4 + b) := by rw [ux_l_mul, nI_add, Nat.mul_comm]
  have ca : (nI (p * 4 + a)).toNatClampNeg = p * 4 + a := ux_c (by omega)
  have cb : (nI (p * 4 + b)).toNatClampNeg = p * 4 + b := ux_c (by omega)
  have va : vp_in (nI (p * 4 + a)) 20 := vp_in_nI (by omega) (by decide)
  have vb : vp_in (nI (p * 4 + b)) 20 := vp_in_nI (by omega) (by decide)
  have g1 : ¬ sp p < 0 := by rw [h3]; exact nI_pos (by omega)
  have g2 : ¬ pn p - 1 < sp p := by
    obtain ⟨t, rfl⟩ : ∃ t, l = t + 1 := ⟨l - 1, by omega⟩
    rw [h3, h4, nI_pred]; exact nI_nlt (by omega) (by omega)
  unfold wpY_execute
  dsimp only
  rw [cl, e20, ux_c (n := p * 20 + s) (by omega)]
  refine nm_e ⟨iv, iv, ya_inT g1 g2 (br_f (by decide) ⟨iv, vp_in_nI (by omega) (by decide), nm_e (nm_r ho (nm_r ea (nm_e ?_)))⟩)⟩
  rw [e4, ca]
  refine ⟨va, nm_e (br_f (by decide) <| br_t (by decide) <| br_f (by decide) <| br_t (by decide) <| br_f (by decide) <| ?_)⟩
  unfold wpY_simple
  dsimp only
  rw [eb, e4, f4, cb]
  refine nm_e ⟨va, ?_⟩
  rw [ca]
  refine nm_e ⟨vb, nm_e ?_⟩
  refine br_f (by decide) <| br_f (by decide) <| br_t rfl ⟨va, ?_⟩
  rw [ca]
  exact nm_e (br_f (by decide) <| br_f (by decide) <| br_f (by decide) <| br_f (by decide) <| br_f (by decide) <| br_f (by decide) <| br_f (by decide) <| br_f (by decide) <| h)
theorem yj_4 {post : Int32 → SY → Prop} (H : ux_in sp pn pg p s l a b 4) (h : wY_execute_262 post (nI p) 4 ql (ex + 1) pr 1 kd le wo et np st qp sp pn pg (upd rg (p * 4 + a) (rg (p * 4 + a) - rg (p * 4 + b))) ee pc fi ow po pl pw qu ou) : wpY_execute post (ql, ex, pr, go, kd, le, wo, et, np, st, qp, sp, pn, pg, rg, ee, pc, fi, ow, po, pl, pw, qu, ou) (nI p) := by
  obtain ⟨hp, hi, ho, ha, ea, hb, eb⟩ := H
  obtain ⟨h1, h2, h3, h4⟩ := id hi
  have cl : (nI p).toNatClampNeg = p := ux_c (by omega)
  have iv : vp_in (nI p) 5 := vp_in_nI hp (by decide)
  have e20 : 20 * nI p + sp p = nI (p * 20 + s) := by rw [h3, ux_l_mul, nI_add, Nat.mul_comm]
  have e4 : 4 * nI p + nI a = nI (p * 4 + a) := by rw [ux_l_mul, nI_add, Nat.mul_comm]
  have f4 : 4 * nI p + nI b = nI (p * 4 + b) := by rw [ux_l_mul, nI_add, Nat.mul_comm]
  have ca : (nI (p * 4 + a)).toNatClampNeg = p * 4 + a := ux_c (by omega)
  have cb : (nI (p * 4 + b)).toNatClampNeg = p * 4 + b := ux_c (by omega)
  have va : vp_in (nI (p * 4 + a)) 20 := vp_in_nI (by omega) (by decide)
  have vb : vp_in (nI (p * 4 + b)) 20 := vp_in_nI (by omega) (by decide)
  have g1 : ¬ sp p < 0 := by rw [h3]; exact nI_pos (by omega)
  have g2 : ¬ pn p - 1 < sp p := by
    obtain ⟨t, rfl⟩ : ∃ t, l = t + 1 := ⟨l - 1, by omega⟩
    rw [h3, h4, nI_pred]; exact nI_nlt (by omega) (by omega)
  unfold wpY_execute
  dsimp only
  rw [cl, e20, ux_c (n := p * 20 + s) (by omega)]
  refine nm_e ⟨iv, iv, ya_inT g1 g2 (br_f (by decide) ⟨iv, vp_in_nI (by omega) (by decide), nm_e (nm_r ho (nm_r ea (nm_e ?_)))⟩)⟩
  rw [e4, ca]
  refine ⟨va, nm_e (br_f (by decide) <| br_t (by decide) <| br_f (by decide) <| br_t (by decide) <| br_f (by decide) <| ?_)⟩
  unfold wpY_simple
  dsimp only
  rw [eb, e4, f4, cb]
  refine nm_e ⟨va, ?_⟩
  rw [ca]
  refine nm_e ⟨vb, nm_e ?_⟩
  refine br_f (by decide) <| br_f (by decide) <| br_f (by decide) <| br_t rfl ⟨va, ?_⟩
  rw [ca]
  exact nm_e (br_f (by decide) <| br_f (by decide) <| br_f (by decide) <| br_f (by decide) <| br_f (by decide) <| br_f (by decide) <| br_f (by decide) <| h)
theorem yj_5 {post : Int32 → SY → Prop} (H : ux_in sp pn pg p s l a b 5) (h : wY_execute_262 post (nI p) 5 ql (ex + 1) pr 1 kd le wo et np st qp sp pn pg (upd rg (p * 4 + a) (rg (p * 4 + a) + (pg (p * 20 + s) >>> ((9 : Int32) &&& 31)))) ee pc fi ow po pl pw qu ou) : wpY_execute post (ql, ex, pr, go, kd, le, wo, et, np, st, qp, sp, pn, pg, rg, ee, pc, fi, ow, po, pl, pw, qu, ou) (nI p) := by
  obtain ⟨hp, hi, ho, ha, ea, hb, eb⟩ := H
  obtain ⟨h1, h2, h3, h4⟩ := id hi
  have cl : (nI p).toNatClampNeg = p := ux_c (by omega)
  have iv : vp_in (nI p) 5 := vp_in_nI hp (by decide)
  have e20 : 20 * nI p + sp p = nI (p * 20 + s) := by rw [h3, ux_l_mul, nI_add, Nat.mul_comm]
  have e4 : 4 * nI p + nI a = nI (p * 4 + a) := by rw [ux_l_mul, nI_add, Nat.mul_comm]
  have f4 : 4 * nI p + nI b = nI (p * 4 + b) := by rw [ux_l_mul, nI_add, Nat.mul_comm]
  have ca : (nI (p * 4 + a)).toNatClampNeg = p * 4 + a := ux_c (by omega)
  have cb : (nI (p * 4 + b)).toNatClampNeg = p * 4 + b := ux_c (by omega)
  have va : vp_in (nI (p * 4 + a)) 20 := vp_in_nI (by omega) (by decide)
  have vb : vp_in (nI (p * 4 + b)) 20 := vp_in_nI (by omega) (by decide)
  have g1 : ¬ sp p < 0 := by rw [h3]; exact nI_pos (by omega)
  have g2 : ¬ pn p - 1 < sp p := by
    obtain ⟨t, rfl⟩ : ∃ t, l = t + 1 := ⟨l - 1, by omega⟩
    rw [h3, h4, nI_pred]; exact nI_nlt (by omega) (by omega)
  unfold wpY_execute
  dsimp only
  rw [cl, e20, ux_c (n := p * 20 + s) (by omega)]
  refine nm_e ⟨iv, iv, ya_inT g1 g2 (br_f (by decide) ⟨iv, vp_in_nI (by omega) (by decide), nm_e (nm_r ho (nm_r ea (nm_e ?_)))⟩)⟩
  rw [e4, ca]
  refine ⟨va, nm_e (br_f (by decide) <| br_t (by decide) <| br_f (by decide) <| br_t (by decide) <| br_f (by decide) <| ?_)⟩
  unfold wpY_simple
  dsimp only
  rw [eb, e4, f4, cb]
  refine nm_e ⟨va, ?_⟩
  rw [ca]
  refine nm_e ⟨vb, nm_e ?_⟩
  refine br_f (by decide) <| br_f (by decide) <| br_f (by decide) <| br_f (by decide) <| br_t rfl ⟨va, ?_⟩
  rw [ca]
  exact nm_e (br_f (by decide) <| br_f (by decide) <| br_f (by decide) <| br_f (by decide) <| br_f (by decide) <| br_f (by decide) <| h)
theorem yj_26 {post : Int32 → SY → Prop} (H : ux_in sp pn pg p s l a b 26) (h : wY_execute_262 post (nI p) 26 ql (ex + 1) pr 1 kd le wo et np st qp sp pn pg (upd rg (p * 4 + a) (nI p)) ee pc fi ow po pl pw qu ou) : wpY_execute post (ql, ex, pr, go, kd, le, wo, et, np, st, qp, sp, pn, pg, rg, ee, pc, fi, ow, po, pl, pw, qu, ou) (nI p) := by
  obtain ⟨hp, hi, ho, ha, ea, hb, eb⟩ := H
  obtain ⟨h1, h2, h3, h4⟩ := id hi
  have cl : (nI p).toNatClampNeg = p := ux_c (by omega)
  have iv : vp_in (nI p) 5 := vp_in_nI hp (by decide)
  have e20 : 20 * nI p + sp p = nI (p * 20 + s) := by rw [h3, ux_l_mul, nI_add, Nat.mul_comm]
  have e4 : 4 * nI p + nI a = nI (p * 4 + a) := by rw [ux_l_mul, nI_add, Nat.mul_comm]
  have f4 : 4 * nI p + nI b = nI (p * 4 + b) := by rw [ux_l_mul, nI_add, Nat.mul_comm]
  have ca : (nI (p * 4 + a)).toNatClampNeg = p * 4 + a := ux_c (by omega)
  have cb : (nI (p * 4 + b)).toNatClampNeg = p * 4 + b := ux_c (by omega)
  have va : vp_in (nI (p * 4 + a)) 20 := vp_in_nI (by omega) (by decide)
  have vb : vp_in (nI (p * 4 + b)) 20 := vp_in_nI (by omega) (by decide)
  have g1 : ¬ sp p < 0 := by rw [h3]; exact nI_pos (by omega)
  have g2 : ¬ pn p - 1 < sp p := by
    obtain ⟨t, rfl⟩ : ∃ t, l = t + 1 := ⟨l - 1, by omega⟩
    rw [h3, h4, nI_pred]; exact nI_nlt (by omega) (by omega)
  unfold wpY_execute
  dsimp only
  rw [cl, e20, ux_c (n := p * 20 + s) (by omega)]
  refine nm_e ⟨iv, iv, ya_inT g1 g2 (br_f (by decide) ⟨iv, vp_in_nI (by omega) (by decide), nm_e (nm_r ho (nm_r ea (nm_e ?_)))⟩)⟩
  rw [e4, ca]
  refine ⟨va, nm_e (br_f (by decide) <| br_f (by decide) <| br_t (by decide) <| br_f (by decide) <| br_f (by decide) <| br_f (by decide) <| br_f (by decide) <| ?_)⟩
  unfold wpY_simple
  dsimp only
  rw [eb, e4, f4, cb]
  refine nm_e ⟨va, ?_⟩
  rw [ca]
  refine nm_e ⟨vb, nm_e ?_⟩
  refine br_f (by decide) <| br_f (by decide) <| br_f (by decide) <| br_f (by decide) <| br_f (by decide) <| br_f (by decide) <| br_f (by decide) <| br_f (by decide) <| br_f (by decide) <| br_t rfl ⟨va, ?_⟩
  rw [ca]
  exact nm_e (br_f (by decide) <| h)
theorem yj_6 {post : Int32 → SY → Prop} (H : ux_in sp pn pg p s l a b 6) (h : wY_execute_262 post (nI p) 6 ql (ex + 1) pr 1 kd le wo et np st qp sp pn pg (upd rg (p * 4 + a) (if rg (p * 4 + b) ≤ rg (p * 4 + a) then 0 else 1)) ee pc fi ow po pl pw qu ou) : wpY_execute post (ql, ex, pr, go, kd, le, wo, et, np, st, qp, sp, pn, pg, rg, ee, pc, fi, ow, po, pl, pw, qu, ou) (nI p) := by
  obtain ⟨hp, hi, ho, ha, ea, hb, eb⟩ := H
  obtain ⟨h1, h2, h3, h4⟩ := id hi
  have cl : (nI p).toNatClampNeg = p := ux_c (by omega)
  have iv : vp_in (nI p) 5 := vp_in_nI hp (by decide)
  have e20 : 20 * nI p + sp p = nI (p * 20 + s) := by rw [h3, ux_l_mul, nI_add, Nat.mul_comm]
  have e4 : 4 * nI p + nI a = nI (p * 4 + a) := by rw [ux_l_mul, nI_add, Nat.mul_comm]
  have f4 : 4 * nI p + nI b = nI (p * 4 + b) := by rw [ux_l_mul, nI_add, Nat.mul_comm]
  have ca : (nI (p * 4 + a)).toNatClampNeg = p * 4 + a := ux_c (by omega)
  have cb : (nI (p * 4 + b)).toNatClampNeg = p * 4 + b := ux_c (by omega)
  have va : vp_in (nI (p * 4 + a)) 20 := vp_in_nI (by omega) (by decide)
  have vb : vp_in (nI (p * 4 + b)) 20 := vp_in_nI (by omega) (by decide)
  have g1 : ¬ sp p < 0 := by rw [h3]; exact nI_pos (by omega)
  have g2 : ¬ pn p - 1 < sp p := by
    obtain ⟨t, rfl⟩ : ∃ t, l = t + 1 := ⟨l - 1, by omega⟩
    rw [h3, h4, nI_pred]; exact nI_nlt (by omega) (by omega)
  unfold wpY_execute
  dsimp only
  rw [cl, e20, ux_c (n := p * 20 + s) (by omega)]
  refine nm_e ⟨iv, iv, ya_inT g1 g2 (br_f (by decide) ⟨iv, vp_in_nI (by omega) (by decide), nm_e (nm_r ho (nm_r ea (nm_e ?_)))⟩)⟩
  rw [e4, ca]
  refine ⟨va, nm_e (br_f (by decide) <| br_t (by decide) <| br_f (by decide) <| br_t (by decide) <| br_f (by decide) <| ?_)⟩
  unfold wpY_simple
  dsimp only
  rw [eb, e4, f4, cb]
  refine nm_e ⟨va, ?_⟩
  rw [ca]
  refine nm_e ⟨vb, nm_e ?_⟩
  refine br_f (by decide) <| br_f (by decide) <| br_f (by decide) <| br_f (by decide) <| br_f (by decide) <| br_t rfl ?_
  by_cases hc : rg (p * 4 + b) ≤ rg (p * 4 + a)
  · rw [if_pos hc] at h
    refine br_t hc ⟨va, ?_⟩
    rw [ca]
    exact nm_e (br_f (by decide) <| br_f (by decide) <| br_f (by decide) <| br_f (by decide) <| br_f (by decide) <| h)
  · rw [if_neg hc] at h
    refine br_f hc ⟨va, ?_⟩
    rw [ca]
    exact nm_e (br_f (by decide) <| br_f (by decide) <| br_f (by decide) <| br_f (by decide) <| br_f (by decide) <| h)
theorem yj_25 {post : Int32 → SY → Prop} (H : ux_in sp pn pg p s l a b 25) (h : wY_execute_262 post (nI p) 25 ql (ex + 1) pr 1 kd le wo et np st qp sp pn pg rg ee pc fi ow po pl pw qu ou) : wpY_execute post (ql, ex, pr, go, kd, le, wo, et, np, st, qp, sp, pn, pg, rg, ee, pc, fi, ow, po, pl, pw, qu, ou) (nI p) := by
  obtain ⟨hp, hi, ho, ha, ea, hb, eb⟩ := H
  obtain ⟨h1, h2, h3, h4⟩ := id hi
  have cl : (nI p).toNatClampNeg = p := ux_c (by omega)
  have iv : vp_in (nI p) 5 := vp_in_nI hp (by decide)
  have e20 : 20 * nI p + sp p = nI (p * 20 + s) := by rw [h3, ux_l_mul, nI_add, Nat.mul_comm]
  have e4 : 4 * nI p + nI a = nI (p * 4 + a) := by rw [ux_l_mul, nI_add, Nat.mul_comm]
  have f4 : 4 * nI p + nI b = nI (p * 4 + b) := by rw [ux_l_mul, nI_add, Nat.mul_comm]
  have ca : (nI (p * 4 + a)).toNatClampNeg = p * 4 + a := ux_c (by omega)
  have cb : (nI (p * 4 + b)).toNatClampNeg = p * 4 + b := ux_c (by omega)
  have va : vp_in (nI (p * 4 + a)) 20 := vp_in_nI (by omega) (by decide)
  have vb : vp_in (nI (p * 4 + b)) 20 := vp_in_nI (by omega) (by decide)
  have g1 : ¬ sp p < 0 := by rw [h3]; exact nI_pos (by omega)
  have g2 : ¬ pn p - 1 < sp p := by
    obtain ⟨t, rfl⟩ : ∃ t, l = t + 1 := ⟨l - 1, by omega⟩
    rw [h3, h4, nI_pred]; exact nI_nlt (by omega) (by omega)
  unfold wpY_execute
  dsimp only
  rw [cl, e20, ux_c (n := p * 20 + s) (by omega)]
  refine nm_e ⟨iv, iv, ya_inT g1 g2 (br_f (by decide) ⟨iv, vp_in_nI (by omega) (by decide), nm_e (nm_r ho (nm_r ea (nm_e ?_)))⟩)⟩
  rw [e4, ca]
  refine ⟨va, nm_e (br_f (by decide) <| br_f (by decide) <| br_t (by decide) <| br_f (by decide) <| br_f (by decide) <| br_f (by decide) <| br_f (by decide) <| ?_)⟩
  unfold wpY_simple
  dsimp only
  rw [eb, e4, f4, cb]
  refine nm_e ⟨va, ?_⟩
  rw [ca]
  refine nm_e ⟨vb, nm_e ?_⟩
  exact br_f (by decide) <| br_f (by decide) <| br_f (by decide) <| br_f (by decide) <| br_f (by decide) <| br_f (by decide) <| br_f (by decide) <| br_f (by decide) <| br_f (by decide) <| br_f (by decide) <| br_f (by decide) <| h
theorem yj_29 {post : Int32 → SY → Prop} (H : ux_in sp pn pg p s l a b 29) (h : wY_execute_262 post (nI p) 29 ql (ex + 1) pr 1 kd le wo et np st qp sp pn pg rg ee pc fi ow po pl pw qu ou) : wpY_execute post (ql, ex, pr, go, kd, le, wo, et, np, st, qp, sp, pn, pg, rg, ee, pc, fi, ow, po, pl, pw, qu, ou) (nI p) := by
  obtain ⟨hp, hi, ho, ha, ea, hb, eb⟩ := H
  obtain ⟨h1, h2, h3, h4⟩ := id hi
  have cl : (nI p).toNatClampNeg = p := ux_c (by omega)
  have iv : vp_in (nI p) 5 := vp_in_nI hp (by decide)
  have e20 : 20 * nI p + sp p = nI (p * 20 + s) := by rw [h3, ux_l_mul, nI_add, Nat.mul_comm]
  have e4 : 4 * nI p + nI a = nI (p * 4 + a) := by rw [ux_l_mul, nI_add, Nat.mul_comm]
  have f4 : 4 * nI p + nI b = nI (p * 4 + b) := by rw [ux_l_mul, nI_add, Nat.mul_comm]
  have ca : (nI (p * 4 + a)).toNatClampNeg = p * 4 + a := ux_c (by omega)
  have cb : (nI (p * 4 + b)).toNatClampNeg = p * 4 + b := ux_c (by omega)
  have va : vp_in (nI (p * 4 + a)) 20 := vp_in_nI (by omega) (by decide)
  have vb : vp_in (nI (p * 4 + b)) 20 := vp_in_nI (by omega) (by decide)
  have g1 : ¬ sp p < 0 := by rw [h3]; exact nI_pos (by omega)
  have g2 : ¬ pn p - 1 < sp p := by
    obtain ⟨t, rfl⟩ : ∃ t, l = t + 1 := ⟨l - 1, by omega⟩
    rw [h3, h4, nI_pred]; exact nI_nlt (by omega) (by omega)
  unfold wpY_execute
  dsimp only
  rw [cl, e20, ux_c (n := p * 20 + s) (by omega)]
  refine nm_e ⟨iv, iv, ya_inT g1 g2 (br_f (by decide) ⟨iv, vp_in_nI (by omega) (by decide), nm_e (nm_r ho (nm_r ea (nm_e ?_)))⟩)⟩
  rw [e4, ca]
  refine ⟨va, nm_e (br_f (by decide) <| br_f (by decide) <| br_t (by decide) <| br_f (by decide) <| br_f (by decide) <| br_f (by decide) <| br_f (by decide) <| ?_)⟩
  unfold wpY_simple
  dsimp only
  rw [eb, e4, f4, cb]
  refine nm_e ⟨va, ?_⟩
  rw [ca]
  refine nm_e ⟨vb, nm_e ?_⟩
  exact br_f (by decide) <| br_f (by decide) <| br_f (by decide) <| br_f (by decide) <| br_f (by decide) <| br_f (by decide) <| br_f (by decide) <| br_f (by decide) <| br_f (by decide) <| br_f (by decide) <| br_f (by decide) <| h
theorem yj_30 {post : Int32 → SY → Prop} (H : ux_in sp pn pg p s l a b 30) (h : wY_execute_262 post (nI p) 30 ql (ex + 1) pr 1 kd le wo et np st qp sp pn pg rg ee pc fi ow po pl pw qu ou) : wpY_execute post (ql, ex, pr, go, kd, le, wo, et, np, st, qp, sp, pn, pg, rg, ee, pc, fi, ow, po, pl, pw, qu, ou) (nI p) := by
  obtain ⟨hp, hi, ho, ha, ea, hb, eb⟩ := H
  obtain ⟨h1, h2, h3, h4⟩ := id hi
  have cl : (nI p).toNatClampNeg = p := ux_c (by omega)
  have iv : vp_in (nI p) 5 := vp_in_nI hp (by decide)
  have e20 : 20 * nI p + sp p = nI (p * 20 + s) := by rw [h3, ux_l_mul, nI_add, Nat.mul_comm]
  have e4 : 4 * nI p + nI a = nI (p * 4 + a) := by rw [ux_l_mul, nI_add, Nat.mul_comm]
  have f4 : 4 * nI p + nI b = nI (p * 4 + b) := by rw [ux_l_mul, nI_add, Nat.mul_comm]
  have ca : (nI (p * 4 + a)).toNatClampNeg = p * 4 + a := ux_c (by omega)
  have cb : (nI (p * 4 + b)).toNatClampNeg = p * 4 + b := ux_c (by omega)
  have va : vp_in (nI (p * 4 + a)) 20 := vp_in_nI (by omega) (by decide)
  have vb : vp_in (nI (p * 4 + b)) 20 := vp_in_nI (by omega) (by decide)
  have g1 : ¬ sp p < 0 := by rw [h3]; exact nI_pos (by omega)
  have g2 : ¬ pn p - 1 < sp p := by
    obtain ⟨t, rfl⟩ : ∃ t, l = t + 1 := ⟨l - 1, by omega⟩
    rw [h3, h4, nI_pred]; exact nI_nlt (by omega) (by omega)
  unfold wpY_execute
  dsimp only
  rw [cl, e20, ux_c (n := p * 20 + s) (by omega)]
  refine nm_e ⟨iv, iv, ya_inT g1 g2 (br_f (by decide) ⟨iv, vp_in_nI (by omega) (by decide), nm_e (nm_r ho (nm_r ea (nm_e ?_)))⟩)⟩
  rw [e4, ca]
  refine ⟨va, nm_e (br_f (by decide) <| br_f (by decide) <| br_t (by decide) <| br_f (by decide) <| br_f (by decide) <| br_f (by decide) <| br_f (by decide) <| ?_)⟩
  unfold wpY_simple
  dsimp only
  rw [eb, e4, f4, cb]
  refine nm_e ⟨va, ?_⟩
  rw [ca]
  refine nm_e ⟨vb, nm_e ?_⟩
  exact br_f (by decide) <| br_f (by decide) <| br_f (by decide) <| br_f (by decide) <| br_f (by decide) <| br_f (by decide) <| br_f (by decide) <| br_f (by decide) <| br_f (by decide) <| br_f (by decide) <| br_f (by decide) <| h
theorem yj_31 {post : Int32 → SY → Prop} (H : ux_in sp pn pg p s l a b 31) (h : wY_execute_262 post (nI p) 31 ql (ex + 1) pr 1 kd le wo et np st qp sp pn pg rg ee pc fi ow po pl pw qu ou) : wpY_execute post (ql, ex, pr, go, kd, le, wo, et, np, st, qp, sp, pn, pg, rg, ee, pc, fi, ow, po, pl, pw, qu, ou) (nI p) := by
  obtain ⟨hp, hi, ho, ha, ea, hb, eb⟩ := H
  obtain ⟨h1, h2, h3, h4⟩ := id hi
  have cl : (nI p).toNatClampNeg = p := ux_c (by omega)
  have iv : vp_in (nI p) 5 := vp_in_nI hp (by decide)
  have e20 : 20 * nI p + sp p = nI (p * 20 + s) := by rw [h3, ux_l_mul, nI_add, Nat.mul_comm]
  have e4 : 4 * nI p + nI a = nI (p * 4 + a) := by rw [ux_l_mul, nI_add, Nat.mul_comm]
  have f4 : 4 * nI p + nI b = nI (p * 4 + b) := by rw [ux_l_mul, nI_add, Nat.mul_comm]
  have ca : (nI (p * 4 + a)).toNatClampNeg = p * 4 + a := ux_c (by omega)
  have cb : (nI (p * 4 + b)).toNatClampNeg = p * 4 + b := ux_c (by omega)
  have va : vp_in (nI (p * 4 + a)) 20 := vp_in_nI (by omega) (by decide)
  have vb : vp_in (nI (p * 4 + b)) 20 := vp_in_nI (by omega) (by decide)
  have g1 : ¬ sp p < 0 := by rw [h3]; exact nI_pos (by omega)
  have g2 : ¬ pn p - 1 < sp p := by
    obtain ⟨t, rfl⟩ : ∃ t, l = t + 1 := ⟨l - 1, by omega⟩
    rw [h3, h4, nI_pred]; exact nI_nlt (by omega) (by omega)
  unfold wpY_execute
  dsimp only
  rw [cl, e20, ux_c (n := p * 20 + s) (by omega)]
  refine nm_e ⟨iv, iv, ya_inT g1 g2 (br_f (by decide) ⟨iv, vp_in_nI (by omega) (by decide), nm_e (nm_r ho (nm_r ea (nm_e ?_)))⟩)⟩
  rw [e4, ca]
  refine ⟨va, nm_e (br_f (by decide) <| br_f (by decide) <| br_t (by decide) <| br_f (by decide) <| br_f (by decide) <| br_f (by decide) <| br_f (by decide) <| ?_)⟩
  unfold wpY_simple
  dsimp only
  rw [eb, e4, f4, cb]
  refine nm_e ⟨va, ?_⟩
  rw [ca]
  refine nm_e ⟨vb, nm_e ?_⟩
  exact br_f (by decide) <| br_f (by decide) <| br_f (by decide) <| br_f (by decide) <| br_f (by decide) <| br_f (by decide) <| br_f (by decide) <| br_f (by decide) <| br_f (by decide) <| br_f (by decide) <| br_f (by decide) <| h
theorem yj_10 {post : Int32 → SY → Prop} (H : ux_in sp pn pg p s l a b 10) (h : ∀ Q : Int32 → SY → Prop, (∀ u, yk post p 10 (match u with | (ql, ex, pr, go, kd, le, wo, et, np, st, qp, sp, pn, pg, rg, ee, pc, fi, ow, po, pl, pw, qu, ou) => (ql, ex, pr, go, kd, le, wo, et, np, st, qp, sp, pn, pg, upd rg (p * 4 + a) (-2), ee, pc, fi, ow, po, pl, pw, qu, ou)) → Q (-2) u) → (∀ (c : Nat) u, c < 5 → yk post p 10 (match u with | (ql, ex, pr, go, kd, le, wo, et, np, st, qp, sp, pn, pg, rg, ee, pc, fi, ow, po, pl, pw, qu, ou) => (ql, ex, pr, go, kd, le, wo, et, np, st, qp, sp, pn, pg, upd (upd rg (p * 4 + a) (nI c)) (c * 4 + a) (-1), ee, pc, fi, ow, po, pl, pw, qu, ou)) → Q (nI c) u) → wpY_fork Q (ql, ex + 1, pr, 1, kd, le, wo, et, np, st, qp, sp, pn, pg, rg, ee, pc, fi, ow, po, pl, pw, qu, ou) (nI p)) : wpY_execute post (ql, ex, pr, go, kd, le, wo, et, np, st, qp, sp, pn, pg, rg, ee, pc, fi, ow, po, pl, pw, qu, ou) (nI p) := by
  obtain ⟨hp, hi, ho, ha, ea, hb, eb⟩ := H
  obtain ⟨h1, h2, h3, h4⟩ := id hi
  have cl : (nI p).toNatClampNeg = p := ux_c (by omega)
  have iv : vp_in (nI p) 5 := vp_in_nI hp (by decide)
  have e20 : 20 * nI p + sp p = nI (p * 20 + s) := by rw [h3, ux_l_mul, nI_add, Nat.mul_comm]
  have e4 : 4 * nI p + nI a = nI (p * 4 + a) := by rw [ux_l_mul, nI_add, Nat.mul_comm]
  have f4 : 4 * nI p + nI b = nI (p * 4 + b) := by rw [ux_l_mul, nI_add, Nat.mul_comm]
  have ca : (nI (p * 4 + a)).toNatClampNeg = p * 4 + a := ux_c (by omega)
  have cb : (nI (p * 4 + b)).toNatClampNeg = p * 4 + b := ux_c (by omega)
  have va : vp_in (nI (p * 4 + a)) 20 := vp_in_nI (by omega) (by decide)
  have vb : vp_in (nI (p * 4 + b)) 20 := vp_in_nI (by omega) (by decide)
  have g1 : ¬ sp p < 0 := by rw [h3]; exact nI_pos (by omega)
  have g2 : ¬ pn p - 1 < sp p := by
    obtain ⟨t, rfl⟩ : ∃ t, l = t + 1 := ⟨l - 1, by omega⟩
    rw [h3, h4, nI_pred]; exact nI_nlt (by omega) (by omega)
  unfold wpY_execute
  dsimp only
  rw [cl, e20, ux_c (n := p * 20 + s) (by omega)]
  refine nm_e ⟨iv, iv, ya_inT g1 g2 (br_f (by decide) ⟨iv, vp_in_nI (by omega) (by decide), nm_e (nm_r ho (nm_r ea (nm_e ?_)))⟩)⟩
  rw [e4, ca]
  refine ⟨va, nm_e (br_f (by decide) <| br_f (by decide) <| br_t (by decide) <| br_f (by decide) <| br_t (by decide) <| br_f (by decide) <| ?_)⟩
  unfold wpY_simple
  dsimp only
  rw [eb, e4, f4, cb]
  refine nm_e ⟨va, ?_⟩
  rw [ca]
  refine nm_e ⟨vb, nm_e ?_⟩
  refine br_f (by decide) <| br_f (by decide) <| br_f (by decide) <| br_f (by decide) <| br_f (by decide) <| br_f (by decide) <| br_t rfl (h _ (fun u hu => ?_) (fun c u hc hu => ?_))
  · obtain ⟨ql, ex, pr, go, kd, le, wo, et, np, st, qp, sp, pn, pg, rg, ee, pc, fi, ow, po, pl, pw, qu, ou⟩ := u
    refine ⟨va, ?_⟩
    rw [ca]
    exact nm_e (br_t (by decide) (br_f (by decide) <| br_f (by decide) <| br_f (by decide) <| br_f (by decide) <| hu))
  · obtain ⟨ql, ex, pr, go, kd, le, wo, et, np, st, qp, sp, pn, pg, rg, ee, pc, fi, ow, po, pl, pw, qu, ou⟩ := u
    have ec : 4 * nI c + nI a = nI (c * 4 + a) := by rw [ux_l_mul, nI_add, Nat.mul_comm]
    refine ⟨va, ?_⟩
    rw [ca, ec, ux_c (n := c * 4 + a) (by omega)]
    exact nm_e (br_f (nI_pos (by omega)) ⟨vp_in_nI (by omega) (by decide), nm_e (br_f (by decide) <| br_f (by decide) <| br_f (by decide) <| br_f (by decide) <| hu)⟩)
theorem yj_11 {post : Int32 → SY → Prop} (H : ux_in sp pn pg p s l a b 11) (h : ∀ Q : SY → Prop, (∀ u, yk post p 11 u → Q u) → wpY_await Q (ql, ex + 1, pr, 1, kd, le, wo, et, np, st, qp, sp, pn, pg, rg, ee, pc, fi, ow, po, pl, pw, qu, ou) (nI p) (nI a) (nI b)) : wpY_execute post (ql, ex, pr, go, kd, le, wo, et, np, st, qp, sp, pn, pg, rg, ee, pc, fi, ow, po, pl, pw, qu, ou) (nI p) := by
  obtain ⟨hp, hi, ho, ha, ea, hb, eb⟩ := H
  obtain ⟨h1, h2, h3, h4⟩ := id hi
  have cl : (nI p).toNatClampNeg = p := ux_c (by omega)
  have iv : vp_in (nI p) 5 := vp_in_nI hp (by decide)
  have e20 : 20 * nI p + sp p = nI (p * 20 + s) := by rw [h3, ux_l_mul, nI_add, Nat.mul_comm]
  have e4 : 4 * nI p + nI a = nI (p * 4 + a) := by rw [ux_l_mul, nI_add, Nat.mul_comm]
  have f4 : 4 * nI p + nI b = nI (p * 4 + b) := by rw [ux_l_mul, nI_add, Nat.mul_comm]
  have ca : (nI (p * 4 + a)).toNatClampNeg = p * 4 + a := ux_c (by omega)
  have cb : (nI (p * 4 + b)).toNatClampNeg = p * 4 + b := ux_c (by omega)
  have va : vp_in (nI (p * 4 + a)) 20 := vp_in_nI (by omega) (by decide)
  have vb : vp_in (nI (p * 4 + b)) 20 := vp_in_nI (by omega) (by decide)
  have g1 : ¬ sp p < 0 := by rw [h3]; exact nI_pos (by omega)
  have g2 : ¬ pn p - 1 < sp p := by
    obtain ⟨t, rfl⟩ : ∃ t, l = t + 1 := ⟨l - 1, by omega⟩
    rw [h3, h4, nI_pred]; exact nI_nlt (by omega) (by omega)
  unfold wpY_execute
  dsimp only
  rw [cl, e20, ux_c (n := p * 20 + s) (by omega)]
  refine nm_e ⟨iv, iv, ya_inT g1 g2 (br_f (by decide) ⟨iv, vp_in_nI (by omega) (by decide), nm_e (nm_r ho (nm_r ea (nm_e ?_)))⟩)⟩
  rw [e4, ca]
  refine ⟨va, nm_e (br_f (by decide) <| br_f (by decide) <| br_t (by decide) <| br_f (by decide) <| br_t (by decide) <| br_f (by decide) <| ?_)⟩
  unfold wpY_simple
  dsimp only
  rw [eb, e4, f4, cb]
  refine nm_e ⟨va, ?_⟩
  rw [ca]
  refine nm_e ⟨vb, nm_e ?_⟩
  refine br_f (by decide) <| br_f (by decide) <| br_f (by decide) <| br_f (by decide) <| br_f (by decide) <| br_f (by decide) <| br_f (by decide) <| br_t rfl (h _ (fun u hu => ?_))
  obtain ⟨ql, ex, pr, go, kd, le, wo, et, np, st, qp, sp, pn, pg, rg, ee, pc, fi, ow, po, pl, pw, qu, ou⟩ := u
  exact br_f (by decide) <| br_f (by decide) <| br_f (by decide) <| hu
theorem yj_24 {post : Int32 → SY → Prop} (H : ux_in sp pn pg p s l a b 24) (h : ∀ Q : SY → Prop, (∀ u, yk post p 24 u → Q u) → wpY_show Q (ql, ex + 1, pr, 1, kd, le, wo, et, np, st, qp, sp, pn, pg, rg, ee, pc, fi, ow, po, pl, pw, qu, ou) (rg (p * 4 + a))) : wpY_execute post (ql, ex, pr, go, kd, le, wo, et, np, st, qp, sp, pn, pg, rg, ee, pc, fi, ow, po, pl, pw, qu, ou) (nI p) := by
  obtain ⟨hp, hi, ho, ha, ea, hb, eb⟩ := H
  obtain ⟨h1, h2, h3, h4⟩ := id hi
  have cl : (nI p).toNatClampNeg = p := ux_c (by omega)
  have iv : vp_in (nI p) 5 := vp_in_nI hp (by decide)
  have e20 : 20 * nI p + sp p = nI (p * 20 + s) := by rw [h3, ux_l_mul, nI_add, Nat.mul_comm]
  have e4 : 4 * nI p + nI a = nI (p * 4 + a) := by rw [ux_l_mul, nI_add, Nat.mul_comm]
  have f4 : 4 * nI p + nI b = nI (p * 4 + b) := by rw [ux_l_mul, nI_add, Nat.mul_comm]
  have ca : (nI (p * 4 + a)).toNatClampNeg = p * 4 + a := ux_c (by omega)
  have cb : (nI (p * 4 + b)).toNatClampNeg = p * 4 + b := ux_c (by omega)
  have va : vp_in (nI (p * 4 + a)) 20 := vp_in_nI (by omega) (by decide)
  have vb : vp_in (nI (p * 4 + b)) 20 := vp_in_nI (by omega) (by decide)
  have g1 : ¬ sp p < 0 := by rw [h3]; exact nI_pos (by omega)
  have g2 : ¬ pn p - 1 < sp p := by
    obtain ⟨t, rfl⟩ : ∃ t, l = t + 1 := ⟨l - 1, by omega⟩
    rw [h3, h4, nI_pred]; exact nI_nlt (by omega) (by omega)
  unfold wpY_execute
  dsimp only
  rw [cl, e20, ux_c (n := p * 20 + s) (by omega)]
  refine nm_e ⟨iv, iv, ya_inT g1 g2 (br_f (by decide) ⟨iv, vp_in_nI (by omega) (by decide), nm_e (nm_r ho (nm_r ea (nm_e ?_)))⟩)⟩
  rw [e4, ca]
  refine ⟨va, nm_e (br_f (by decide) <| br_f (by decide) <| br_t (by decide) <| br_f (by decide) <| br_f (by decide) <| br_f (by decide) <| br_f (by decide) <| ?_)⟩
  unfold wpY_simple
  dsimp only
  rw [eb, e4, f4, cb]
  refine nm_e ⟨va, ?_⟩
  rw [ca]
  refine nm_e ⟨vb, nm_e ?_⟩
  refine br_f (by decide) <| br_f (by decide) <| br_f (by decide) <| br_f (by decide) <| br_f (by decide) <| br_f (by decide) <| br_f (by decide) <| br_f (by decide) <| br_t rfl (h _ (fun u hu => ?_))
  obtain ⟨ql, ex, pr, go, kd, le, wo, et, np, st, qp, sp, pn, pg, rg, ee, pc, fi, ow, po, pl, pw, qu, ou⟩ := u
  exact br_f (by decide) <| br_f (by decide) <| hu
theorem yj_27 {post : Int32 → SY → Prop} {d : Nat} (H : ux_in sp pn pg p s l a b 27) (hd : pc p = nI d) (h : ∀ Q : Int32 → Prop, (∀ r, (∀ Q2 : Int32 → Prop, (∀ r2, wY_execute_262 post (nI p) 27 ql (ex + 1) pr 1 kd le wo et np st qp sp pn pg (upd rg (p * 4 + a) r2) ee pc fi ow po pl pw qu ou → Q2 r2) → wpY_sizeOf Q2 (ql, ex + 1, pr, 1, kd, le, wo, et, np, st, qp, sp, pn, pg, rg, ee, pc, fi, ow, po, pl, pw, qu, ou) r) → Q r) → wpY_named Q (ql, ex + 1, pr, 1, kd, le, wo, et, np, st, qp, sp, pn, pg, rg, ee, pc, fi, ow, po, pl, pw, qu, ou) (nI d) (rg (p * 4 + a))) : wpY_execute post (ql, ex, pr, go, kd, le, wo, et, np, st, qp, sp, pn, pg, rg, ee, pc, fi, ow, po, pl, pw, qu, ou) (nI p) := by
  obtain ⟨hp, hi, ho, ha, ea, hb, eb⟩ := H
  obtain ⟨h1, h2, h3, h4⟩ := id hi
  have cl : (nI p).toNatClampNeg = p := ux_c (by omega)
  have iv : vp_in (nI p) 5 := vp_in_nI hp (by decide)
  have e20 : 20 * nI p + sp p = nI (p * 20 + s) := by rw [h3, ux_l_mul, nI_add, Nat.mul_comm]
  have e4 : 4 * nI p + nI a = nI (p * 4 + a) := by rw [ux_l_mul, nI_add, Nat.mul_comm]
  have f4 : 4 * nI p + nI b = nI (p * 4 + b) := by rw [ux_l_mul, nI_add, Nat.mul_comm]
  have ca : (nI (p * 4 + a)).toNatClampNeg = p * 4 + a := ux_c (by omega)
  have cb : (nI (p * 4 + b)).toNatClampNeg = p * 4 + b := ux_c (by omega)
  have va : vp_in (nI (p * 4 + a)) 20 := vp_in_nI (by omega) (by decide)
  have vb : vp_in (nI (p * 4 + b)) 20 := vp_in_nI (by omega) (by decide)
  have g1 : ¬ sp p < 0 := by rw [h3]; exact nI_pos (by omega)
  have g2 : ¬ pn p - 1 < sp p := by
    obtain ⟨t, rfl⟩ : ∃ t, l = t + 1 := ⟨l - 1, by omega⟩
    rw [h3, h4, nI_pred]; exact nI_nlt (by omega) (by omega)
  unfold wpY_execute
  dsimp only
  rw [cl, e20, ux_c (n := p * 20 + s) (by omega)]
  refine nm_e ⟨iv, iv, ya_inT g1 g2 (br_f (by decide) ⟨iv, vp_in_nI (by omega) (by decide), nm_e (nm_r ho (nm_r ea (nm_e ?_)))⟩)⟩
  rw [e4, ca]
  refine ⟨va, nm_e (br_f (by decide) <| br_f (by decide) <| br_t (by decide) <| br_f (by decide) <| br_f (by decide) <| br_f (by decide) <| br_f (by decide) <| ?_)⟩
  unfold wpY_simple
  dsimp only
  rw [eb, e4, f4, cb]
  refine nm_e ⟨va, ?_⟩
  rw [ca]
  refine nm_e ⟨vb, nm_e ?_⟩
  refine br_f (by decide) <| br_f (by decide) <| br_f (by decide) <| br_f (by decide) <| br_f (by decide) <| br_f (by decide) <| br_f (by decide) <| br_f (by decide) <| br_f (by decide) <| br_f (by decide) <| br_t rfl ⟨iv, ?_⟩
  rw [cl, hd]
  refine h _ (fun r hr => hr _ (fun r2 h2 => ⟨va, ?_⟩))
  rw [ca]
  exact nm_e (h2)
theorem yj_0 {post : Int32 → SY → Prop} (H : ux_in sp pn pg p s l a b 0) (h : ∀ Q : SY → Prop, (∀ u, post 0 u → Q u) → wpY_end Q (ql, ex + 1, pr, go, kd, le, wo, et, np, st, qp, sp, pn, pg, rg, ee, pc, fi, ow, po, pl, pw, qu, ou) (nI p) (rg (p * 4 + a))) : wpY_execute post (ql, ex, pr, go, kd, le, wo, et, np, st, qp, sp, pn, pg, rg, ee, pc, fi, ow, po, pl, pw, qu, ou) (nI p) := by
  obtain ⟨hp, hi, ho, ha, ea, hb, eb⟩ := H
  obtain ⟨h1, h2, h3, h4⟩ := id hi
  have cl : (nI p).toNatClampNeg = p := ux_c (by omega)
  have iv : vp_in (nI p) 5 := vp_in_nI hp (by decide)
  have e20 : 20 * nI p + sp p = nI (p * 20 + s) := by rw [h3, ux_l_mul, nI_add, Nat.mul_comm]
  have e4 : 4 * nI p + nI a = nI (p * 4 + a) := by rw [ux_l_mul, nI_add, Nat.mul_comm]
  have f4 : 4 * nI p + nI b = nI (p * 4 + b) := by rw [ux_l_mul, nI_add, Nat.mul_comm]
  have ca : (nI (p * 4 + a)).toNatClampNeg = p * 4 + a := ux_c (by omega)
  have cb : (nI (p * 4 + b)).toNatClampNeg = p * 4 + b := ux_c (by omega)
  have va : vp_in (nI (p * 4 + a)) 20 := vp_in_nI (by omega) (by decide)
  have vb : vp_in (nI (p * 4 + b)) 20 := vp_in_nI (by omega) (by decide)
  have g1 : ¬ sp p < 0 := by rw [h3]; exact nI_pos (by omega)
  have g2 : ¬ pn p - 1 < sp p := by
    obtain ⟨t, rfl⟩ : ∃ t, l = t + 1 := ⟨l - 1, by omega⟩
    rw [h3, h4, nI_pred]; exact nI_nlt (by omega) (by omega)
  unfold wpY_execute
  dsimp only
  rw [cl, e20, ux_c (n := p * 20 + s) (by omega)]
  refine nm_e ⟨iv, iv, ya_inT g1 g2 (br_f (by decide) ⟨iv, vp_in_nI (by omega) (by decide), nm_e (nm_r ho (nm_r ea (nm_e ?_)))⟩)⟩
  rw [e4, ca]
  exact ⟨va, nm_e (br_t rfl (h _ (fun u hu => hu)))⟩
theorem yj_8 {post : Int32 → SY → Prop} (H : ux_in sp pn pg p s l a b 8) (h : post 1 (ql, ex + 1, pr, go, kd, le, wo, et, np, st, qp, upd sp p (pg (p * 20 + s) >>> ((9 : Int32) &&& 31)), pn, pg, rg, ee, pc, fi, ow, po, pl, pw, qu, ou)) : wpY_execute post (ql, ex, pr, go, kd, le, wo, et, np, st, qp, sp, pn, pg, rg, ee, pc, fi, ow, po, pl, pw, qu, ou) (nI p) := by
  obtain ⟨hp, hi, ho, ha, ea, hb, eb⟩ := H
  obtain ⟨h1, h2, h3, h4⟩ := id hi
  have cl : (nI p).toNatClampNeg = p := ux_c (by omega)
  have iv : vp_in (nI p) 5 := vp_in_nI hp (by decide)
  have e20 : 20 * nI p + sp p = nI (p * 20 + s) := by rw [h3, ux_l_mul, nI_add, Nat.mul_comm]
  have e4 : 4 * nI p + nI a = nI (p * 4 + a) := by rw [ux_l_mul, nI_add, Nat.mul_comm]
  have f4 : 4 * nI p + nI b = nI (p * 4 + b) := by rw [ux_l_mul, nI_add, Nat.mul_comm]
  have ca : (nI (p * 4 + a)).toNatClampNeg = p * 4 + a := ux_c (by omega)
  have cb : (nI (p * 4 + b)).toNatClampNeg = p * 4 + b := ux_c (by omega)
  have va : vp_in (nI (p * 4 + a)) 20 := vp_in_nI (by omega) (by decide)
  have vb : vp_in (nI (p * 4 + b)) 20 := vp_in_nI (by omega) (by decide)
  have g1 : ¬ sp p < 0 := by rw [h3]; exact nI_pos (by omega)
  have g2 : ¬ pn p - 1 < sp p := by
    obtain ⟨t, rfl⟩ : ∃ t, l = t + 1 := ⟨l - 1, by omega⟩
    rw [h3, h4, nI_pred]; exact nI_nlt (by omega) (by omega)
  unfold wpY_execute
  dsimp only
  rw [cl, e20, ux_c (n := p * 20 + s) (by omega)]
  refine nm_e ⟨iv, iv, ya_inT g1 g2 (br_f (by decide) ⟨iv, vp_in_nI (by omega) (by decide), nm_e (nm_r ho (nm_r ea (nm_e ?_)))⟩)⟩
  rw [e4, ca]
  exact ⟨va, nm_e (br_f (by decide) <| br_f (by decide) <| br_f (by decide) <| br_t rfl <| ⟨iv, nm_e h⟩)⟩
theorem yj_7z {post : Int32 → SY → Prop} (H : ux_in sp pn pg p s l a b 7) (hz : rg (p * 4 + a) = 0) (h : post 1 (ql, ex + 1, pr, go, kd, le, wo, et, np, st, qp, upd sp p (pg (p * 20 + s) >>> ((9 : Int32) &&& 31)), pn, pg, rg, ee, pc, fi, ow, po, pl, pw, qu, ou)) : wpY_execute post (ql, ex, pr, go, kd, le, wo, et, np, st, qp, sp, pn, pg, rg, ee, pc, fi, ow, po, pl, pw, qu, ou) (nI p) := by
  obtain ⟨hp, hi, ho, ha, ea, hb, eb⟩ := H
  obtain ⟨h1, h2, h3, h4⟩ := id hi
  have cl : (nI p).toNatClampNeg = p := ux_c (by omega)
  have iv : vp_in (nI p) 5 := vp_in_nI hp (by decide)
  have e20 : 20 * nI p + sp p = nI (p * 20 + s) := by rw [h3, ux_l_mul, nI_add, Nat.mul_comm]
  have e4 : 4 * nI p + nI a = nI (p * 4 + a) := by rw [ux_l_mul, nI_add, Nat.mul_comm]
  have f4 : 4 * nI p + nI b = nI (p * 4 + b) := by rw [ux_l_mul, nI_add, Nat.mul_comm]
  have ca : (nI (p * 4 + a)).toNatClampNeg = p * 4 + a := ux_c (by omega)
  have cb : (nI (p * 4 + b)).toNatClampNeg = p * 4 + b := ux_c (by omega)
  have va : vp_in (nI (p * 4 + a)) 20 := vp_in_nI (by omega) (by decide)
  have vb : vp_in (nI (p * 4 + b)) 20 := vp_in_nI (by omega) (by decide)
  have g1 : ¬ sp p < 0 := by rw [h3]; exact nI_pos (by omega)
  have g2 : ¬ pn p - 1 < sp p := by
    obtain ⟨t, rfl⟩ : ∃ t, l = t + 1 := ⟨l - 1, by omega⟩
    rw [h3, h4, nI_pred]; exact nI_nlt (by omega) (by omega)
  unfold wpY_execute
  dsimp only
  rw [cl, e20, ux_c (n := p * 20 + s) (by omega)]
  refine nm_e ⟨iv, iv, ya_inT g1 g2 (br_f (by decide) ⟨iv, vp_in_nI (by omega) (by decide), nm_e (nm_r ho (nm_r ea (nm_e ?_)))⟩)⟩
  rw [e4, ca]
  refine ⟨va, nm_e (br_f (by decide) <| br_f (by decide) <| br_f (by decide) <| br_f (by decide) <| br_t hz <| br_t rfl <| br_t rfl ?_)⟩
  rw [cl]
  exact ⟨iv, nm_e h⟩
theorem yj_7n {post : Int32 → SY → Prop} (H : ux_in sp pn pg p s l a b 7) (hz : rg (p * 4 + a) ≠ 0) (h : wY_execute_262 post (nI p) 7 ql (ex + 1) pr 1 kd le wo et np st qp sp pn pg rg ee pc fi ow po pl pw qu ou) : wpY_execute post (ql, ex, pr, go, kd, le, wo, et, np, st, qp, sp, pn, pg, rg, ee, pc, fi, ow, po, pl, pw, qu, ou) (nI p) := by
  obtain ⟨hp, hi, ho, ha, ea, hb, eb⟩ := H
  obtain ⟨h1, h2, h3, h4⟩ := id hi
  have cl : (nI p).toNatClampNeg = p := ux_c (by omega)
  have iv : vp_in (nI p) 5 := vp_in_nI hp (by decide)
  have e20 : 20 * nI p + sp p = nI (p * 20 + s) := by rw [h3, ux_l_mul, nI_add, Nat.mul_comm]
  have e4 : 4 * nI p + nI a = nI (p * 4 + a) := by rw [ux_l_mul, nI_add, Nat.mul_comm]
  have f4 : 4 * nI p + nI b = nI (p * 4 + b) := by rw [ux_l_mul, nI_add, Nat.mul_comm]
  have ca : (nI (p * 4 + a)).toNatClampNeg = p * 4 + a := ux_c (by omega)
  have cb : (nI (p * 4 + b)).toNatClampNeg = p * 4 + b := ux_c (by omega)
  have va : vp_in (nI (p * 4 + a)) 20 := vp_in_nI (by omega) (by decide)
  have vb : vp_in (nI (p * 4 + b)) 20 := vp_in_nI (by omega) (by decide)
  have g1 : ¬ sp p < 0 := by rw [h3]; exact nI_pos (by omega)
  have g2 : ¬ pn p - 1 < sp p := by
    obtain ⟨t, rfl⟩ : ∃ t, l = t + 1 := ⟨l - 1, by omega⟩
    rw [h3, h4, nI_pred]; exact nI_nlt (by omega) (by omega)
  unfold wpY_execute
  dsimp only
  rw [cl, e20, ux_c (n := p * 20 + s) (by omega)]
  refine nm_e ⟨iv, iv, ya_inT g1 g2 (br_f (by decide) ⟨iv, vp_in_nI (by omega) (by decide), nm_e (nm_r ho (nm_r ea (nm_e ?_)))⟩)⟩
  rw [e4, ca]
  refine ⟨va, nm_e (br_f (by decide) <| br_f (by decide) <| br_f (by decide) <| br_f (by decide) <| br_f hz <| br_t rfl <| br_f (by decide) <| br_f (by decide) <| br_t (by decide) <| br_f (by decide) <| ?_)⟩
  unfold wpY_simple
  dsimp only
  rw [eb, e4, f4, cb]
  refine nm_e ⟨va, ?_⟩
  rw [ca]
  refine nm_e ⟨vb, nm_e ?_⟩
  exact br_f (by decide) <| br_f (by decide) <| br_f (by decide) <| br_f (by decide) <| br_f (by decide) <| br_f (by decide) <| br_f (by decide) <| br_f (by decide) <| br_f (by decide) <| br_f (by decide) <| br_f (by decide) <| h
theorem yj_9z {post : Int32 → SY → Prop} (H : ux_in sp pn pg p s l a b 9) (hz : rg (p * 4 + a) = 0) (h : wY_execute_262 post (nI p) 9 ql (ex + 1) pr 1 kd le wo et np st qp sp pn pg rg ee pc fi ow po pl pw qu ou) : wpY_execute post (ql, ex, pr, go, kd, le, wo, et, np, st, qp, sp, pn, pg, rg, ee, pc, fi, ow, po, pl, pw, qu, ou) (nI p) := by
  obtain ⟨hp, hi, ho, ha, ea, hb, eb⟩ := H
  obtain ⟨h1, h2, h3, h4⟩ := id hi
  have cl : (nI p).toNatClampNeg = p := ux_c (by omega)
  have iv : vp_in (nI p) 5 := vp_in_nI hp (by decide)
  have e20 : 20 * nI p + sp p = nI (p * 20 + s) := by rw [h3, ux_l_mul, nI_add, Nat.mul_comm]
  have e4 : 4 * nI p + nI a = nI (p * 4 + a) := by rw [ux_l_mul, nI_add, Nat.mul_comm]
  have f4 : 4 * nI p + nI b = nI (p * 4 + b) := by rw [ux_l_mul, nI_add, Nat.mul_comm]
  have ca : (nI (p * 4 + a)).toNatClampNeg = p * 4 + a := ux_c (by omega)
  have cb : (nI (p * 4 + b)).toNatClampNeg = p * 4 + b := ux_c (by omega)
  have va : vp_in (nI (p * 4 + a)) 20 := vp_in_nI (by omega) (by decide)
  have vb : vp_in (nI (p * 4 + b)) 20 := vp_in_nI (by omega) (by decide)
  have g1 : ¬ sp p < 0 := by rw [h3]; exact nI_pos (by omega)
  have g2 : ¬ pn p - 1 < sp p := by
    obtain ⟨t, rfl⟩ : ∃ t, l = t + 1 := ⟨l - 1, by omega⟩
    rw [h3, h4, nI_pred]; exact nI_nlt (by omega) (by omega)
  unfold wpY_execute
  dsimp only
  rw [cl, e20, ux_c (n := p * 20 + s) (by omega)]
  refine nm_e ⟨iv, iv, ya_inT g1 g2 (br_f (by decide) ⟨iv, vp_in_nI (by omega) (by decide), nm_e (nm_r ho (nm_r ea (nm_e ?_)))⟩)⟩
  rw [e4, ca]
  refine ⟨va, nm_e (br_f (by decide) <| br_f (by decide) <| br_f (by decide) <| br_f (by decide) <| br_t hz <| br_f (by decide) <| br_f (by decide) <| br_f (by decide) <| br_t (by decide) <| br_f (by decide) <| ?_)⟩
  unfold wpY_simple
  dsimp only
  rw [eb, e4, f4, cb]
  refine nm_e ⟨va, ?_⟩
  rw [ca]
  refine nm_e ⟨vb, nm_e ?_⟩
  exact br_f (by decide) <| br_f (by decide) <| br_f (by decide) <| br_f (by decide) <| br_f (by decide) <| br_f (by decide) <| br_f (by decide) <| br_f (by decide) <| br_f (by decide) <| br_f (by decide) <| br_f (by decide) <| h
theorem yj_9n {post : Int32 → SY → Prop} (H : ux_in sp pn pg p s l a b 9) (hz : rg (p * 4 + a) ≠ 0) (h : post 1 (ql, ex + 1, pr, go, kd, le, wo, et, np, st, qp, upd sp p (pg (p * 20 + s) >>> ((9 : Int32) &&& 31)), pn, pg, rg, ee, pc, fi, ow, po, pl, pw, qu, ou)) : wpY_execute post (ql, ex, pr, go, kd, le, wo, et, np, st, qp, sp, pn, pg, rg, ee, pc, fi, ow, po, pl, pw, qu, ou) (nI p) := by
  obtain ⟨hp, hi, ho, ha, ea, hb, eb⟩ := H
  obtain ⟨h1, h2, h3, h4⟩ := id hi
  have cl : (nI p).toNatClampNeg = p := ux_c (by omega)
  have iv : vp_in (nI p) 5 := vp_in_nI hp (by decide)
  have e20 : 20 * nI p + sp p = nI (p * 20 + s) := by rw [h3, ux_l_mul, nI_add, Nat.mul_comm]
  have e4 : 4 * nI p + nI a = nI (p * 4 + a) := by rw [ux_l_mul, nI_add, Nat.mul_comm]
  have f4 : 4 * nI p + nI b = nI (p * 4 + b) := by rw [ux_l_mul, nI_add, Nat.mul_comm]
  have ca : (nI (p * 4 + a)).toNatClampNeg = p * 4 + a := ux_c (by omega)
  have cb : (nI (p * 4 + b)).toNatClampNeg = p * 4 + b := ux_c (by omega)
  have va : vp_in (nI (p * 4 + a)) 20 := vp_in_nI (by omega) (by decide)
  have vb : vp_in (nI (p * 4 + b)) 20 := vp_in_nI (by omega) (by decide)
  have g1 : ¬ sp p < 0 := by rw [h3]; exact nI_pos (by omega)
  have g2 : ¬ pn p - 1 < sp p := by
    obtain ⟨t, rfl⟩ : ∃ t, l = t + 1 := ⟨l - 1, by omega⟩
    rw [h3, h4, nI_pred]; exact nI_nlt (by omega) (by omega)
  unfold wpY_execute
  dsimp only
  rw [cl, e20, ux_c (n := p * 20 + s) (by omega)]
  refine nm_e ⟨iv, iv, ya_inT g1 g2 (br_f (by decide) ⟨iv, vp_in_nI (by omega) (by decide), nm_e (nm_r ho (nm_r ea (nm_e ?_)))⟩)⟩
  rw [e4, ca]
  refine ⟨va, nm_e (br_f (by decide) <| br_f (by decide) <| br_f (by decide) <| br_f (by decide) <| br_f hz <| br_f (by decide) <| br_t rfl ?_)⟩
  rw [cl]
  exact ⟨iv, nm_e h⟩
theorem yj_12n {post : Int32 → SY → Prop} {d : Nat} (H : ux_in sp pn pg p s l a b 12) (hd : pc p = nI d) (hd2 : d < 10) (hno : ux_no en d (rg (p * 4 + a))) (h : wY_execute_262 post (nI p) 12 ql (ex + 1) pr 1 kd le wo (ux_EN en) np st qp sp pn pg (upd rg (p * 4 + 3) (-1)) ee pc fi ow po pl pw qu ou) : wpY_execute post (ql, ex, pr, go, kd, le, wo, ux_EN en, np, st, qp, sp, pn, pg, rg, ee, pc, fi, ow, po, pl, pw, qu, ou) (nI p) := by
  obtain ⟨hp, hi, ho, ha, ea, hb, eb⟩ := H
  obtain ⟨h1, h2, h3, h4⟩ := id hi
  have cl : (nI p).toNatClampNeg = p := ux_c (by omega)
  have iv : vp_in (nI p) 5 := vp_in_nI hp (by decide)
  have e20 : 20 * nI p + sp p = nI (p * 20 + s) := by rw [h3, ux_l_mul, nI_add, Nat.mul_comm]
  have e4 : 4 * nI p + nI a = nI (p * 4 + a) := by rw [ux_l_mul, nI_add, Nat.mul_comm]
  have f4 : 4 * nI p + nI b = nI (p * 4 + b) := by rw [ux_l_mul, nI_add, Nat.mul_comm]
  have ca : (nI (p * 4 + a)).toNatClampNeg = p * 4 + a := ux_c (by omega)
  have cb : (nI (p * 4 + b)).toNatClampNeg = p * 4 + b := ux_c (by omega)
  have va : vp_in (nI (p * 4 + a)) 20 := vp_in_nI (by omega) (by decide)
  have vb : vp_in (nI (p * 4 + b)) 20 := vp_in_nI (by omega) (by decide)
  have g1 : ¬ sp p < 0 := by rw [h3]; exact nI_pos (by omega)
  have g2 : ¬ pn p - 1 < sp p := by
    obtain ⟨t, rfl⟩ : ∃ t, l = t + 1 := ⟨l - 1, by omega⟩
    rw [h3, h4, nI_pred]; exact nI_nlt (by omega) (by omega)
  unfold wpY_execute
  dsimp only
  rw [cl, e20, ux_c (n := p * 20 + s) (by omega)]
  refine nm_e ⟨iv, iv, ya_inT g1 g2 (br_f (by decide) ⟨iv, vp_in_nI (by omega) (by decide), nm_e (nm_r ho (nm_r ea (nm_e ?_)))⟩)⟩
  rw [e4, ca]
  refine ⟨va, nm_e (br_f (by decide) <| br_f (by decide) <| br_t (by decide) <| br_t rfl ⟨iv, ?_⟩)⟩
  rw [cl, hd]
  refine ya_nmN hd2 hno (br_t (by decide) ?_)
  unfold wY_execute_199 wpY_fail
  rw [show 4 * nI p + 3 = nI (p * 4 + 3) by rw [ux_l_mul, ux_add_l, Nat.mul_comm], ux_c (n := p * 4 + 3) (by omega)]
  refine ⟨vp_in_nI (by omega) (by decide), nm_e (br_t (by decide) <| br_f (by decide) ?_)⟩
  unfold wpY_simple
  dsimp only
  rw [eb, e4, f4, cb]
  refine nm_e ⟨va, ?_⟩
  rw [ca]
  refine nm_e ⟨vb, nm_e ?_⟩
  exact br_f (by decide) <| br_f (by decide) <| br_f (by decide) <| br_f (by decide) <| br_f (by decide) <| br_f (by decide) <| br_f (by decide) <| br_f (by decide) <| br_f (by decide) <| br_f (by decide) <| br_f (by decide) <| h
theorem yj_12d {post : Int32 → SY → Prop} {d q n : Nat} (H : ux_in sp pn pg p s l a b 12) (hd : pc p = nI d) (hd2 : d < 10) (hye : ux_ye en d (rg (p * 4 + a)) q n) (hk : kd n ≠ 1) (h : wY_execute_262 post (nI p) 12 ql (ex + 1) pr 1 kd le wo (ux_EN en) np st qp sp pn pg (upd rg (p * 4 + 3) (-1)) ee pc fi ow po pl pw qu ou) : wpY_execute post (ql, ex, pr, go, kd, le, wo, ux_EN en, np, st, qp, sp, pn, pg, rg, ee, pc, fi, ow, po, pl, pw, qu, ou) (nI p) := by
  obtain ⟨hp, hi, ho, ha, ea, hb, eb⟩ := H
  obtain ⟨h1, h2, h3, h4⟩ := id hi
  have cl : (nI p).toNatClampNeg = p := ux_c (by omega)
  have iv : vp_in (nI p) 5 := vp_in_nI hp (by decide)
  have e20 : 20 * nI p + sp p = nI (p * 20 + s) := by rw [h3, ux_l_mul, nI_add, Nat.mul_comm]
  have e4 : 4 * nI p + nI a = nI (p * 4 + a) := by rw [ux_l_mul, nI_add, Nat.mul_comm]
  have f4 : 4 * nI p + nI b = nI (p * 4 + b) := by rw [ux_l_mul, nI_add, Nat.mul_comm]
  have ca : (nI (p * 4 + a)).toNatClampNeg = p * 4 + a := ux_c (by omega)
  have cb : (nI (p * 4 + b)).toNatClampNeg = p * 4 + b := ux_c (by omega)
  have va : vp_in (nI (p * 4 + a)) 20 := vp_in_nI (by omega) (by decide)
  have vb : vp_in (nI (p * 4 + b)) 20 := vp_in_nI (by omega) (by decide)
  have g1 : ¬ sp p < 0 := by rw [h3]; exact nI_pos (by omega)
  have g2 : ¬ pn p - 1 < sp p := by
    obtain ⟨t, rfl⟩ : ∃ t, l = t + 1 := ⟨l - 1, by omega⟩
    rw [h3, h4, nI_pred]; exact nI_nlt (by omega) (by omega)
  unfold wpY_execute
  dsimp only
  rw [cl, e20, ux_c (n := p * 20 + s) (by omega)]
  refine nm_e ⟨iv, iv, ya_inT g1 g2 (br_f (by decide) ⟨iv, vp_in_nI (by omega) (by decide), nm_e (nm_r ho (nm_r ea (nm_e ?_)))⟩)⟩
  rw [e4, ca]
  have hn := hye.2.2.2.1
  refine ⟨va, nm_e (br_f (by decide) <| br_f (by decide) <| br_t (by decide) <| br_t rfl ⟨iv, ?_⟩)⟩
  rw [cl, hd]
  refine ya_nmY hd2 hye (br_f (nI_pos (by omega)) ⟨vp_in_nI hn (by decide), br_f (by rw [ux_c (by omega)]; exact hk) ?_⟩)
  unfold wY_execute_199 wpY_fail
  rw [show 4 * nI p + 3 = nI (p * 4 + 3) by rw [ux_l_mul, ux_add_l, Nat.mul_comm], ux_c (n := p * 4 + 3) (by omega)]
  refine ⟨vp_in_nI (by omega) (by decide), nm_e (br_t (by decide) <| br_f (by decide) ?_)⟩
  unfold wpY_simple
  dsimp only
  rw [eb, e4, f4, cb]
  refine nm_e ⟨va, ?_⟩
  rw [ca]
  refine nm_e ⟨vb, nm_e ?_⟩
  exact br_f (by decide) <| br_f (by decide) <| br_f (by decide) <| br_f (by decide) <| br_f (by decide) <| br_f (by decide) <| br_f (by decide) <| br_f (by decide) <| br_f (by decide) <| br_f (by decide) <| br_f (by decide) <| h
theorem yj_12y {post : Int32 → SY → Prop} {d q n : Nat} (H : ux_in sp pn pg p s l a b 12) (hd : pc p = nI d) (hd2 : d < 10) (hye : ux_ye en d (rg (p * 4 + a)) q n) (hk : kd n = 1) (h : post 1 (ql, ex + 1, pr, go, kd, le, wo, ux_EN en, np, st, qp, upd sp p 0, upd pn p (le n), ux_cw pg wo (p * 20) (n * 20) 20, rg, ee, pc, fi, ow, po, pl, pw, qu, ou)) : wpY_execute post (ql, ex, pr, go, kd, le, wo, ux_EN en, np, st, qp, sp, pn, pg, rg, ee, pc, fi, ow, po, pl, pw, qu, ou) (nI p) := by
  obtain ⟨hp, hi, ho, ha, ea, hb, eb⟩ := H
  obtain ⟨h1, h2, h3, h4⟩ := id hi
  have cl : (nI p).toNatClampNeg = p := ux_c (by omega)
  have iv : vp_in (nI p) 5 := vp_in_nI hp (by decide)
  have e20 : 20 * nI p + sp p = nI (p * 20 + s) := by rw [h3, ux_l_mul, nI_add, Nat.mul_comm]
  have e4 : 4 * nI p + nI a = nI (p * 4 + a) := by rw [ux_l_mul, nI_add, Nat.mul_comm]
  have f4 : 4 * nI p + nI b = nI (p * 4 + b) := by rw [ux_l_mul, nI_add, Nat.mul_comm]
  have ca : (nI (p * 4 + a)).toNatClampNeg = p * 4 + a := ux_c (by omega)
  have cb : (nI (p * 4 + b)).toNatClampNeg = p * 4 + b := ux_c (by omega)
  have va : vp_in (nI (p * 4 + a)) 20 := vp_in_nI (by omega) (by decide)
  have vb : vp_in (nI (p * 4 + b)) 20 := vp_in_nI (by omega) (by decide)
  have g1 : ¬ sp p < 0 := by rw [h3]; exact nI_pos (by omega)
  have g2 : ¬ pn p - 1 < sp p := by
    obtain ⟨t, rfl⟩ : ∃ t, l = t + 1 := ⟨l - 1, by omega⟩
    rw [h3, h4, nI_pred]; exact nI_nlt (by omega) (by omega)
  unfold wpY_execute
  dsimp only
  rw [cl, e20, ux_c (n := p * 20 + s) (by omega)]
  refine nm_e ⟨iv, iv, ya_inT g1 g2 (br_f (by decide) ⟨iv, vp_in_nI (by omega) (by decide), nm_e (nm_r ho (nm_r ea (nm_e ?_)))⟩)⟩
  rw [e4, ca]
  have hn := hye.2.2.2.1
  refine ⟨va, nm_e (br_f (by decide) <| br_f (by decide) <| br_t (by decide) <| br_t rfl ⟨iv, ?_⟩)⟩
  rw [cl, hd]
  exact ya_nmY hd2 hye (br_f (nI_pos (by omega)) ⟨vp_in_nI hn (by decide), br_t (by rw [ux_c (by omega)]; exact hk) (ya_ld hp hn h)⟩)

theorem yj_out {post : Int32 → SY → Prop} (hp : p < 5) (hu : ux_up sp pn p l) (h : ∀ Q : SY → Prop, (∀ u, post 0 u → Q u) → wpY_end Q (ql, ex + 1, pr, go, kd, le, wo, et, np, st, qp, sp, pn, pg, rg, ee, pc, fi, ow, po, pl, pw, qu, ou) (nI p) (-4)) : wpY_execute post (ql, ex, pr, go, kd, le, wo, et, np, st, qp, sp, pn, pg, rg, ee, pc, fi, ow, po, pl, pw, qu, ou) (nI p) := by
  obtain ⟨h1, h2, h3⟩ := hu
  have cl : (nI p).toNatClampNeg = p := ux_c (by omega)
  have iv : vp_in (nI p) 5 := vp_in_nI hp (by decide)
  unfold wpY_execute
  dsimp only
  rw [cl]
  refine nm_e ⟨iv, iv, ya_inF ?_ (br_t rfl (h _ (fun u hu => hu)))⟩
  rcases h3 with h3 | ⟨h3, h4⟩
  · exact Or.inl h3
  · rw [h2]; exact Or.inr (ux_hm1 h3 h4 h1)
end UX15Y
