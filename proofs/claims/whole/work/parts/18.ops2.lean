section UX18A
variable {ql pr : Int32} {ex : Int64} {kd ns np wo en st pp sp pc pg pn rg ds fi ow po pw pl qu ou : Nat → Int32}
variable {post : SX → Prop} {p n k q : Nat} {x : Int32}
theorem xa_fail (hp : p < 5) (h : post (ql, pr, ex, kd, ns, np, wo, en, st, pp, sp, pc, pg, pn, upd rg (p * 4 + 3) (-1), ds, fi, ow, po, pw, pl, qu, ou)) : wpX_fail post (ql, pr, ex, kd, ns, np, wo, en, st, pp, sp, pc, pg, pn, rg, ds, fi, ow, po, pw, pl, qu, ou) (nI p) := by
  unfold wpX_fail
  dsimp only
  rw [show nI p * 4 + 3 = nI (p * 4 + 3) by rw [ux_mul_l, ux_add_l], ux_c (n := p * 4 + 3) (by omega)]
  exact ⟨vp_in_nI (by omega) (by decide), nm_e h⟩
def ux_sr (pw : Nat → Int32) (k : Nat) : Nat → (Nat → Int32)
  | 0 => pw
  | i + 1 => upd (ux_sr pw k i) (k * 4 + i) (ux_sr pw k i (k * 4 + i + 1))
theorem xs_rp (hk : k < 2) (h : post (ql, pr, ex, kd, ns, np, wo, en, st, pp, sp, pc, pg, pn, rg, ds, fi, ow, po, ux_sr pw k 3, upd pl k (pl k - 1), qu, ou)) : ∀ r i, i + r = 3 → wX_readPipe_49 post (nI k) ql pr ex (r + 1) (nI (i + 1)) kd ns np wo en st pp sp pc pg pn rg ds fi ow po (ux_sr pw k i) pl qu ou := by
  intro r
  induction r with
  | zero =>
    intro i hi
    have ei : i = 3 := by omega
    subst ei
    refine br_t (by decide) ⟨vp_in_nI hk (by decide), vp_in_nI hk (by decide), ?_⟩
    rw [ux_c (n := k) (by omega)]
    exact nm_e h
  | succ r ih =>
    intro i hi
    have H : wX_readPipe_49 post (nI k) ql pr ex (r + 1) (nI (i + 1 + 1)) kd ns np wo en st pp sp pc pg pn rg ds fi ow po (upd (ux_sr pw k i) (k * 4 + i) (ux_sr pw k i (k * 4 + i + 1))) pl qu ou := ih (i + 1) (by omega)
    have e : nI k * 4 + nI (i + 1) = nI (k * 4 + i + 1) := by rw [ux_mul_l, nI_add, Nat.add_assoc]
    refine br_f (nI_ge (b := 4) (by omega) (by decide)) ?_
    rw [e, nI_pred, ux_c (n := k * 4 + i) (by omega), ux_c (n := k * 4 + i + 1) (by omega)]
    exact ⟨vp_in_nI (by omega) (by decide), vp_in_nI (by omega) (by decide), nm_e (nm_r (nI_1 _) H)⟩
end UX18A
section UX18B
variable {ql pr go : Int32} {ex : Int64} {kd ns le wo en et np st qp sp pn pg rg ee ds pc fi ow po pl pw qu ou : Nat → Int32}
variable {post : SY → Prop} {p n k q : Nat} {x : Int32}
theorem ya_fail (hp : p < 5) (h : post (ql, ex, pr, go, kd, le, wo, et, np, st, qp, sp, pn, pg, upd rg (p * 4 + 3) (-1), ee, pc, fi, ow, po, pl, pw, qu, ou)) : wpY_fail post (ql, ex, pr, go, kd, le, wo, et, np, st, qp, sp, pn, pg, rg, ee, pc, fi, ow, po, pl, pw, qu, ou) (nI p) := by
  unfold wpY_fail
  dsimp only
  rw [show 4 * nI p + 3 = nI (p * 4 + 3) by rw [ux_l_mul, ux_add_l, Nat.mul_comm], ux_c (n := p * 4 + 3) (by omega)]
  exact ⟨vp_in_nI (by omega) (by decide), nm_e h⟩
theorem ya_done (hp : p < 5) (h : post (ql, ex, pr, go, kd, le, wo, et, np, st, qp, sp, pn, pg, upd rg (p * 4 + 3) 1, ee, pc, fi, ow, po, pl, pw, qu, ou)) : wpY_done post (ql, ex, pr, go, kd, le, wo, et, np, st, qp, sp, pn, pg, rg, ee, pc, fi, ow, po, pl, pw, qu, ou) (nI p) := by
  unfold wpY_done
  dsimp only
  rw [show 4 * nI p + 3 = nI (p * 4 + 3) by rw [ux_l_mul, ux_add_l, Nat.mul_comm], ux_c (n := p * 4 + 3) (by omega)]
  exact ⟨vp_in_nI (by omega) (by decide), nm_e h⟩
theorem ys_rp (hk : k < 2) (h : post (ql, ex, pr, go, kd, le, wo, et, np, st, qp, sp, pn, pg, rg, ee, pc, fi, ow, po, upd pl k (pl k - 1), ux_sr pw k 3, qu, ou)) : ∀ r i, i + r = 3 → wY_readPipe_49 post (nI k) ql ex pr go (r + 1) (nI (k * 4 + i)) kd le wo et np st qp sp pn pg rg ee pc fi ow po pl (ux_sr pw k i) qu ou := by
  have e : 4 * nI k + 3 = nI (k * 4 + 3) := by rw [ux_l_mul, ux_add_l, Nat.mul_comm]
  intro r
  induction r with
  | zero =>
    intro i hi
    have ei : i = 3 := by omega
    subst ei
    refine br_t (by rw [e]; exact nI_le (Nat.le_refl _) (by omega)) ⟨vp_in_nI hk (by decide), vp_in_nI hk (by decide), ?_⟩
    rw [ux_c (n := k) (by omega)]
    exact nm_e h
  | succ r ih =>
    intro i hi
    have H : wY_readPipe_49 post (nI k) ql ex pr go (r + 1) (nI (k * 4 + i + 1)) kd le wo et np st qp sp pn pg rg ee pc fi ow po pl (upd (ux_sr pw k i) (k * 4 + i) (ux_sr pw k i (k * 4 + i + 1))) qu ou := ih (i + 1) (by omega)
    refine br_f (by rw [e]; exact nI_ge (by omega) (by omega)) ?_
    rw [nI_1, ux_c (n := k * 4 + i) (by omega), ux_c (n := k * 4 + i + 1) (by omega)]
    exact ⟨vp_in_nI (by omega) (by decide), vp_in_nI (by omega) (by decide), nm_e (nm_e H)⟩
end UX18B
section UX18
variable {ql pr : Int32} {ex : Int64} {kd ns np wo en st pp sp pc pg pn rg ds fi ow po pw pl qu ou : Nat → Int32}
variable {qp : Nat → Int32} {go : Int32} {B p s l a b m c : Nat}
theorem ux_m1p {t : Nat} (h : 0 < t) : nI t - 1 = nI (t - 1) := by
  obtain ⟨q, rfl⟩ : ∃ q, t = q + 1 := ⟨t - 1, by omega⟩
  exact nI_pred q
theorem op_14 (hJ : ux_J B kd ns np en ds fi ow po st pp qp pc pn pl qu m c) (hN : ux_N qu m p) (hs : st p = 1) (H : ux_in sp pn pg p s l a b 14) : ux_G (B + 1) p (nI m, nI c, ex + 1, kd, ns, np, wo, en, st, pp, sp, pc, pg, pn, rg, ds, fi, ow, po, pw, pl, qu, ou) ((nI m), ex, (nI c), go, kd, (ux_LN kd ns), wo, (ux_EN en), np, st, qp, sp, pn, pg, rg, (ux_ED ds), pc, fi, ow, po, pl, pw, qu, ou) := by
  obtain ⟨hF, hD, hO, hZ, hR, hU, hI, hL, hB⟩ := id hJ
  obtain ⟨hp, hi, ho, ha, ea, hb, eb⟩ := id H
  have cl : (nI p).toNatClampNeg = p := ux_c (by omega)
  have iv : vp_in (nI p) 5 := vp_in_nI hp (by decide)
  have ca : (nI (p * 4 + a)).toNatClampNeg = p * 4 + a := ux_c (by omega)
  have cb : (nI (p * 4 + b)).toNatClampNeg = p * 4 + b := ux_c (by omega)
  have c3 : (nI (p * 4 + 3)).toNatClampNeg = p * 4 + 3 := ux_c (by omega)
  have va : vp_in (nI (p * 4 + a)) 20 := vp_in_nI (by omega) (by decide)
  have vb : vp_in (nI (p * 4 + b)) 20 := vp_in_nI (by omega) (by decide)
  have v3 : vp_in (nI (p * 4 + 3)) 20 := vp_in_nI (by omega) (by decide)
  have e4 : 4 * nI p + nI a = nI (p * 4 + a) := by rw [ux_l_mul, nI_add, Nat.mul_comm]
  have f4 : 4 * nI p + nI b = nI (p * 4 + b) := by rw [ux_l_mul, nI_add, Nat.mul_comm]
  have x3 : nI p * 4 + 3 = nI (p * 4 + 3) := by rw [ux_mul_l, ux_add_l]
  have y3 : 4 * nI p + 3 = nI (p * 4 + 3) := by rw [ux_l_mul, ux_add_l, Nat.mul_comm]
  obtain ⟨w, hv, hV⟩ := ux_hvE hD hp (rg (p * 4 + b))
  by_cases hw : w = 0
  · subst hw
    refine ux_G1 (r := 1) (go := 1) (rg := upd rg (p * 4 + 3) (-1)) (sp := upd sp p (sp p + 1)) (ex := ex + 1) (kd := kd) (ns := ns) (np := np) (wo := wo) (en := en) (st := st) (pp := pp) (pc := pc) (pg := pg) (pn := pn) (ds := ds) (fi := fi) (ow := ow) (po := po) (pw := pw) (pl := pl) (qu := qu) (ou := ou) (qp := qp) (m := m) (c := c) (fun _ h => xj_14 H (fun Q hQ => ?_)) (fun _ h => yj_14 H (fun Q hQ => ?_)) (ux_J_mono hJ (by omega)) hN (Or.inr ⟨rfl, hs⟩)
    · unfold wpX_close
      exact xa_ha hp hv (br_t rfl (hQ _ _ (x634a hp hs (by decide) h)))
    · unfold wpY_close
      refine ya_eO hp hb hv ?_
      rw [ux_cv0]
      exact br_t rfl (ya_fail hp (hQ _ (y262a hp rfl (by decide) h)))
  · rcases hv with ⟨d, hd, e1, e2⟩ | ⟨_, e2⟩
    · have hv : ux_hv ds p (rg (p * 4 + b)) w := Or.inl ⟨d, hd, e1, e2⟩
      have xd : nI p * 4 + nI d = nI (p * 4 + d) := by rw [ux_mul_l, nI_add]
      have yd : 4 * nI p + nI d = nI (p * 4 + d) := by rw [ux_l_mul, nI_add, Nat.mul_comm]
      have cd : (nI (p * 4 + d)).toNatClampNeg = p * 4 + d := ux_c (by omega)
      have vd : vp_in (nI (p * 4 + d)) 20 := vp_in_nI (by omega) (by decide)
      refine ux_G2 (r := 1) (go := 1) (ds := upd ds (p * 4 + d) 0) (rg := upd rg (p * 4 + 3) 1) (sp := upd sp p (sp p + 1)) (ex := ex + 1) (kd := kd) (ns := ns) (np := np) (wo := wo) (en := en) (st := st) (pp := pp) (pc := pc) (pg := pg) (pn := pn) (fi := fi) (ow := ow) (po := po) (pw := pw) (pl := pl) (qu := qu) (ou := ou) (qp := qp) (m := m) (c := c) (fun _ h => xj_14 H (fun Q hQ => ?_)) (fun _ h => yj_14 H (fun Q hQ => ?_)) (ux_D_upd hD (Or.inl rfl)) (ux_J_mono (ux_J_close hJ hs hd) (by omega)) hN (Or.inr ⟨rfl, hs⟩)
      · unfold wpX_close
        refine xa_ha hp hv (br_f hw ?_)
        rw [e1, xd, cd]
        exact ⟨vd, nm_e (hQ _ _ (x634a hp hs (by decide) h))⟩
      · rw [ux_LN_ck] at h
        unfold wpY_close
        refine ya_eO hp hb hv (br_f (fun z => hw ((ux_cv_0 hV).mp z)) ?_)
        rw [f4, cb, e1, yd, cd]
        refine ⟨vb, vd, nm_r (e' := ux_ED (upd ds (p * 4 + d) 0)) (by rw [ux_ED_u, ux_cv0]) (ya_cl hF.1 hF.2.1 (ux_D_upd hD (Or.inl rfl)) (ya_done hp (hQ _ (y262a hp rfl (by decide) h))))⟩
    · exact absurd e2 hw
theorem op_18 (hJ : ux_J B kd ns np en ds fi ow po st pp qp pc pn pl qu m c) (hN : ux_N qu m p) (hs : st p = 1) (H : ux_in sp pn pg p s l a b 18) : ux_G (B + 1) p (nI m, nI c, ex + 1, kd, ns, np, wo, en, st, pp, sp, pc, pg, pn, rg, ds, fi, ow, po, pw, pl, qu, ou) ((nI m), ex, (nI c), go, kd, (ux_LN kd ns), wo, (ux_EN en), np, st, qp, sp, pn, pg, rg, (ux_ED ds), pc, fi, ow, po, pl, pw, qu, ou) := by
  obtain ⟨hF, hD, hO, hZ, hR, hU, hI, hL, hB⟩ := id hJ
  obtain ⟨hp, hi, ho, ha, ea, hb, eb⟩ := id H
  have cl : (nI p).toNatClampNeg = p := ux_c (by omega)
  have iv : vp_in (nI p) 5 := vp_in_nI hp (by decide)
  have ca : (nI (p * 4 + a)).toNatClampNeg = p * 4 + a := ux_c (by omega)
  have cb : (nI (p * 4 + b)).toNatClampNeg = p * 4 + b := ux_c (by omega)
  have c3 : (nI (p * 4 + 3)).toNatClampNeg = p * 4 + 3 := ux_c (by omega)
  have va : vp_in (nI (p * 4 + a)) 20 := vp_in_nI (by omega) (by decide)
  have vb : vp_in (nI (p * 4 + b)) 20 := vp_in_nI (by omega) (by decide)
  have v3 : vp_in (nI (p * 4 + 3)) 20 := vp_in_nI (by omega) (by decide)
  have e4 : 4 * nI p + nI a = nI (p * 4 + a) := by rw [ux_l_mul, nI_add, Nat.mul_comm]
  have f4 : 4 * nI p + nI b = nI (p * 4 + b) := by rw [ux_l_mul, nI_add, Nat.mul_comm]
  have x3 : nI p * 4 + 3 = nI (p * 4 + 3) := by rw [ux_mul_l, ux_add_l]
  have y3 : 4 * nI p + 3 = nI (p * 4 + 3) := by rw [ux_l_mul, ux_add_l, Nat.mul_comm]
  obtain ⟨w, hv, hV⟩ := ux_hvE hD hp (rg (p * 4 + b))
  have hf : (∀ f : Nat, True) → (w = 0 ∨ ux_nf ds p 0) → ux_G (B + 1) p (nI m, nI c, ex + 1, kd, ns, np, wo, en, st, pp, sp, pc, pg, pn, rg, ds, fi, ow, po, pw, pl, qu, ou) ((nI m), ex, (nI c), go, kd, (ux_LN kd ns), wo, (ux_EN en), np, st, qp, sp, pn, pg, rg, (ux_ED ds), pc, fi, ow, po, pl, pw, qu, ou) := by
    intro _ hor
    refine ux_G1 (r := 1) (go := 1) (rg := upd rg (p * 4 + 3) (-1)) (sp := upd sp p (sp p + 1)) (ex := ex + 1) (kd := kd) (ns := ns) (np := np) (wo := wo) (en := en) (st := st) (pp := pp) (pc := pc) (pg := pg) (pn := pn) (ds := ds) (fi := fi) (ow := ow) (po := po) (pw := pw) (pl := pl) (qu := qu) (ou := ou) (qp := qp) (m := m) (c := c) (fun _ h => xj_18 H (fun Q hQ => ?_)) (fun _ h => yj_18 H (fun Q hQ => ?_)) (ux_J_mono hJ (by omega)) hN (Or.inr ⟨rfl, hs⟩)
    · unfold wpX_copyDescriptor
      dsimp only
      rw [cb]
      refine ⟨vb, xa_ha hp hv ?_⟩
      have hX : wX_copyDescriptor_31 Q (nI p) (nI m) (nI c) (ex + 1) kd ns np wo en st pp (upd sp p (sp p + 1)) pc pg pn rg ds fi ow po pw pl qu ou := xa_fail hp (hQ _ (x634a hp hs (by decide) h))
      rcases ux_fdnf ds p 0 (by omega) with ⟨d, hd⟩ | hd
      · refine xa_nd (a := 0) hp hd ?_
        rcases hor with z | z
        · exact br_t z hX
        · exact absurd hd.2.2.1 (z.2 d (by omega) hd.2.1)
      · refine xa_nd0 (a := 0) hp hd ?_
        by_cases hw : w = 0
        · exact br_t hw hX
        · exact br_f hw (br_f (by decide) hX)
    · unfold wpY_copy
      refine ya_eO hp hb hv ?_
      have hX : wY_copy_26 Q (nI p) (nI m) (ex + 1) (nI c) 1 kd (ux_LN kd ns) wo (ux_EN en) np st qp sp pn pg rg (ux_ED ds) pc fi ow po pl pw qu ou := ya_fail hp (hQ _ (y262a hp rfl (by decide) h))
      rcases ux_fdnf ds p 0 (by omega) with ⟨d, hd⟩ | hd
      · refine ya_nd (a := 0) hD hp hd ?_
        rcases hor with z | z
        · exact br_t (by rw [z, ux_cv0]) hX
        · exact absurd hd.2.2.1 (z.2 d (by omega) hd.2.1)
      · refine ya_nd0 (a := 0) hD hp hd ?_
        by_cases hw : ux_cv w = 0
        · exact br_t hw hX
        · exact br_f hw (br_f (by decide) hX)
  by_cases hw : w = 0
  · exact hf (fun _ => trivial) (Or.inl hw)
  · rcases ux_fdnf ds p 0 (by omega) with ⟨d, hd⟩ | hd
    · rcases hv with ⟨d2, hd2, e1, e2⟩ | ⟨_, e2⟩
      · have hv : ux_hv ds p (rg (p * 4 + b)) w := Or.inl ⟨d2, hd2, e1, e2⟩
        have h4 := hd.2.1
        have xd : nI p * 4 + nI d = nI (p * 4 + d) := by rw [ux_mul_l, nI_add]
        have yd : 4 * nI p + nI d = nI (p * 4 + d) := by rw [ux_l_mul, nI_add, Nat.mul_comm]
        have cd : (nI (p * 4 + d)).toNatClampNeg = p * 4 + d := ux_c (by omega)
        have vd : vp_in (nI (p * 4 + d)) 20 := vp_in_nI (by omega) (by decide)
        refine ux_G1 (r := 1) (go := 1) (ds := upd ds (p * 4 + d) w) (rg := upd rg (p * 4 + a) (nI d)) (sp := upd sp p (sp p + 1)) (ex := ex + 1) (kd := kd) (ns := ns) (np := np) (wo := wo) (en := en) (st := st) (pp := pp) (pc := pc) (pg := pg) (pn := pn) (fi := fi) (ow := ow) (po := po) (pw := pw) (pl := pl) (qu := qu) (ou := ou) (qp := qp) (m := m) (c := c) (fun _ h => xj_18 H (fun Q hQ => ?_)) (fun _ h => yj_18 H (fun Q hQ => ?_)) (by rw [e2]; exact ux_J_mono (ux_J_copy hJ hs h4 hd.2.2.1 (by omega)) (by omega)) hN (Or.inr ⟨rfl, hs⟩)
        · unfold wpX_copyDescriptor
          dsimp only
          rw [cb]
          refine ⟨vb, xa_ha hp hv (xa_nd (a := 0) hp hd (br_f hw (br_t (nI_pos' (by omega)) ?_)))⟩
          rw [xd, cd, ca]
          exact ⟨vd, nm_e ⟨va, nm_e (hQ _ (x634a hp hs (by decide) h))⟩⟩
        · rw [ux_ED_u] at h
          unfold wpY_copy
          refine ya_eO hp hb hv (ya_nd (a := 0) hD hp hd (br_f (fun z => hw ((ux_cv_0 hV).mp z)) (br_t (nI_pos' (by omega)) ?_)))
          rw [yd, cd, e4, ca]
          exact ⟨vd, nm_e ⟨va, nm_e (hQ _ (y262a hp rfl (by decide) h))⟩⟩
      · exact absurd e2 hw
    · exact hf (fun _ => trivial) (Or.inr hd)
end UX18
