section UX22X
variable {ql pr : Int32} {ex : Int64} {kd ns np wo en st pp sp pc pg pn rg ds fi ow po pw pl qu ou : Nat → Int32}
variable {post : SX → Prop} {p k : Nat}
theorem xs_c107 (hp : p < 5) (hk : k < 5) (h : post (ql, pr, ex, kd, ns, np, wo, en, st, pp, sp, pc, pg, pn, rg, ux_cs ds (k * 4) (p * 4) 4, fi, ow, po, pw, pl, qu, ou)) : ∀ r i, i + r = 4 → wX_copyProcess_107 post (nI p) (nI k) ql pr ex (r + 1) (nI i) kd ns np wo en st pp sp pc pg pn rg (ux_cs ds (k * 4) (p * 4) i) fi ow po pw pl qu ou := by
  intro r
  induction r with
  | zero =>
    intro i hi
    have ei : i = 4 := by omega
    subst ei
    exact br_t (by decide) h
  | succ r ih =>
    intro i hi
    have H := ih (i + 1) (by omega)
    have e1 : nI p * 4 + nI i = nI (p * 4 + i) := by rw [ux_mul_l, nI_add]
    have e2 : nI k * 4 + nI i = nI (k * 4 + i) := by rw [ux_mul_l, nI_add]
    refine br_f (nI_ge (b := 4) (by omega) (by decide)) ?_
    rw [e1, e2, ux_c (n := p * 4 + i) (by omega), ux_c (n := k * 4 + i) (by omega)]
    exact ⟨vp_in_nI (by omega) (by decide), vp_in_nI (by omega) (by decide), nm_e (nm_r (nI_1 i) H)⟩
theorem xs_c74 (hp : p < 5) (hk : k < 5) (h : ∃ n, wX_copyProcess_107 post (nI p) (nI k) ql pr ex n 0 kd ns np wo en st pp sp pc pg pn (ux_cs rg (k * 4) (p * 4) 4) ds fi ow po pw pl qu ou) : ∀ r i, i + r = 4 → wX_copyProcess_74 post (nI p) (nI k) ql pr ex (r + 1) (nI i) kd ns np wo en st pp sp pc pg pn (ux_cs rg (k * 4) (p * 4) i) ds fi ow po pw pl qu ou := by
  intro r
  induction r with
  | zero =>
    intro i hi
    have ei : i = 4 := by omega
    subst ei
    exact br_t (by decide) h
  | succ r ih =>
    intro i hi
    have H := ih (i + 1) (by omega)
    have e1 : nI p * 4 + nI i = nI (p * 4 + i) := by rw [ux_mul_l, nI_add]
    have e2 : nI k * 4 + nI i = nI (k * 4 + i) := by rw [ux_mul_l, nI_add]
    refine br_f (nI_ge (b := 4) (by omega) (by decide)) ?_
    rw [e1, e2, ux_c (n := p * 4 + i) (by omega), ux_c (n := k * 4 + i) (by omega)]
    exact ⟨vp_in_nI (by omega) (by decide), vp_in_nI (by omega) (by decide), nm_e (nm_r (nI_1 i) H)⟩
theorem xs_c38 (hp : p < 5) (hk : k < 5) (h : ∃ n, wX_copyProcess_74 post (nI p) (nI k) ql pr ex n 0 kd ns np wo en st pp sp pc (ux_cs pg (k * 20) (p * 20) 20) pn rg ds fi ow po pw pl qu ou) : ∀ r i, i + r = 20 → wX_copyProcess_38 post (nI p) (nI k) ql pr ex (r + 1) (nI i) kd ns np wo en st pp sp pc (ux_cs pg (k * 20) (p * 20) i) pn rg ds fi ow po pw pl qu ou := by
  intro r
  induction r with
  | zero =>
    intro i hi
    have ei : i = 20 := by omega
    subst ei
    exact br_t (by decide) h
  | succ r ih =>
    intro i hi
    have H := ih (i + 1) (by omega)
    have e1 : nI p * 20 + nI i = nI (p * 20 + i) := by rw [ux_mul_l, nI_add]
    have e2 : nI k * 20 + nI i = nI (k * 20 + i) := by rw [ux_mul_l, nI_add]
    refine br_f (nI_ge (b := 20) (by omega) (by decide)) ?_
    rw [e1, e2, ux_c (n := p * 20 + i) (by omega), ux_c (n := k * 20 + i) (by omega)]
    exact ⟨vp_in_nI (by omega) (by decide), vp_in_nI (by omega) (by decide), nm_e (nm_r (nI_1 i) H)⟩
theorem xa_cp (hp : p < 5) (hk : k < 5) (hkp : k ≠ p) (h : post (ql, pr, ex, kd, ns, np, wo, en, st, pp, upd sp k (sp p), upd pc k (pc p), ux_cs pg (k * 20) (p * 20) 20, upd pn k (pn p), ux_c4 rg k p, ux_c4 ds k p, fi, ow, po, pw, pl, qu, ou)) : wpX_copyProcess post (ql, pr, ex, kd, ns, np, wo, en, st, pp, sp, pc, pg, pn, rg, ds, fi, ow, po, pw, pl, qu, ou) (nI p) (nI k) := by
  have iv : vp_in (nI p) 5 := vp_in_nI hp (by decide)
  have ik : vp_in (nI k) 5 := vp_in_nI hk (by decide)
  rw [← ux_cs_c4 hkp, ← ux_cs_c4 hkp] at h
  unfold wpX_copyProcess
  dsimp only
  rw [ux_c (n := p) (by omega), ux_c (n := k) (by omega)]
  exact ⟨iv, ik, nm_e ⟨iv, ik, nm_e ⟨iv, ik, nm_e ⟨21, xs_c38 hp hk ⟨5, xs_c74 hp hk ⟨5, xs_c107 hp hk h 4 0 (by omega)⟩ 4 0 (by omega)⟩ 20 0 (by omega)⟩⟩⟩⟩
end UX22X
section UX22Y
variable {ql pr go : Int32} {ex : Int64} {kd ns le wo en et np st qp sp pn pg rg ee ds pc fi ow po pl pw qu ou : Nat → Int32}
variable {post : Int32 → SY → Prop} {p k m : Nat}
theorem ys_f95 (hp : p < 5) (hk : k < 5) (hm : m < 6) (h : post (nI k) (nI (m + 1), ex, pr, go, kd, le, wo, et, np, upd st k 1, qp, sp, pn, pg, ux_cs rg (k * 4) (p * 4) 4, ux_cs ee (k * 4) (p * 4) 4, pc, fi, ow, po, pl, pw, upd qu m (nI k), ou)) : ∀ r i, i + r = 4 → wY_fork_95 post (nI p) (nI k) (nI m) ex pr go (r + 1) (nI i) kd le wo et np st qp sp pn pg (ux_cs rg (k * 4) (p * 4) i) (ux_cs ee (k * 4) (p * 4) i) pc fi ow po pl pw qu ou := by
  intro r
  induction r with
  | zero =>
    intro i hi
    have ei : i = 4 := by omega
    subst ei
    exact br_t (by decide) (ya_jq hk hm h)
  | succ r ih =>
    intro i hi
    have H := ih (i + 1) (by omega)
    have e1 : 4 * nI p + nI i = nI (p * 4 + i) := by rw [ux_l_mul, nI_add, Nat.mul_comm]
    have e2 : 4 * nI k + nI i = nI (k * 4 + i) := by rw [ux_l_mul, nI_add, Nat.mul_comm]
    refine br_f (nI_ge (b := 4) (by omega) (by decide)) ?_
    rw [e1, e2, ux_c (n := p * 4 + i) (by omega), ux_c (n := k * 4 + i) (by omega)]
    exact ⟨vp_in_nI (by omega) (by decide), vp_in_nI (by omega) (by decide), nm_e ⟨vp_in_nI (by omega) (by decide), vp_in_nI (by omega) (by decide), nm_e (nm_r (nI_1 i) H)⟩⟩
theorem ys_f59 (hp : p < 5) (hk : k < 5) (h : ∃ n, wY_fork_95 post (nI p) (nI k) ql ex pr go n 0 kd le wo et np st qp sp pn (ux_cs pg (k * 20) (p * 20) 20) rg ee pc fi ow po pl pw qu ou) : ∀ r i, i + r = 20 → wY_fork_59 post (nI p) (nI k) ql ex pr go (r + 1) (nI i) kd le wo et np st qp sp pn (ux_cs pg (k * 20) (p * 20) i) rg ee pc fi ow po pl pw qu ou := by
  intro r
  induction r with
  | zero =>
    intro i hi
    have ei : i = 20 := by omega
    subst ei
    exact br_t (by decide) h
  | succ r ih =>
    intro i hi
    have H := ih (i + 1) (by omega)
    have e1 : 20 * nI p + nI i = nI (p * 20 + i) := by rw [ux_l_mul, nI_add, Nat.mul_comm]
    have e2 : 20 * nI k + nI i = nI (k * 20 + i) := by rw [ux_l_mul, nI_add, Nat.mul_comm]
    refine br_f (nI_ge (b := 20) (by omega) (by decide)) ?_
    rw [e1, e2, ux_c (n := p * 20 + i) (by omega), ux_c (n := k * 20 + i) (by omega)]
    exact ⟨vp_in_nI (by omega) (by decide), vp_in_nI (by omega) (by decide), nm_e (nm_r (nI_1 i) H)⟩
theorem ya_fk (hp : p < 5) (hk : k < 5) (hkp : k ≠ p) (hm : m < 6) (h0 : st k = 0) (hj : ∀ j, j < k → st j ≠ 0) (h : post (nI k) (nI (m + 1), ex, pr, go, kd, le, wo, et, np, upd st k 1, upd qp k (nI p), upd sp k (sp p + 1), upd pn k (pn p), ux_cs pg (k * 20) (p * 20) 20, ux_c4 rg k p, ux_c4 ee k p, upd pc k (pc p), fi, ow, po, pl, pw, upd qu m (nI k), ou)) : wpY_fork post (nI m, ex, pr, go, kd, le, wo, et, np, st, qp, sp, pn, pg, rg, ee, pc, fi, ow, po, pl, pw, qu, ou) (nI p) := by
  have iv : vp_in (nI p) 5 := vp_in_nI hp (by decide)
  have ik : vp_in (nI k) 5 := vp_in_nI hk (by decide)
  rw [← ux_cs_c4 hkp, ← ux_cs_c4 hkp] at h
  unfold wpY_fork
  refine ya_fp hk h0 hj (br_t (nI_pos' (by omega)) ?_)
  rw [ux_c (n := p) (by omega), ux_c (n := k) (by omega)]
  exact ⟨ik, nm_e ⟨iv, ik, nm_e ⟨iv, ik, nm_e ⟨iv, ik, nm_e ⟨21, ys_f59 hp hk ⟨5, ys_f95 hp hk hm h 4 0 (by omega)⟩ 20 0 (by omega)⟩⟩⟩⟩⟩
end UX22Y
section UX22
variable {ql pr : Int32} {ex : Int64} {kd ns np wo en st pp sp pc pg pn rg ds fi ow po pw pl qu ou : Nat → Int32}
variable {qp : Nat → Int32} {go : Int32} {B p s l a b m c : Nat}
theorem op_10 (hJ : ux_J B kd ns np en ds fi ow po st pp qp pc pn pl qu m c) (hN : ux_N qu m p) (hs : st p = 1) (H : ux_in sp pn pg p s l a b 10) : ux_G (B + 1) p (nI m, nI c, ex + 1, kd, ns, np, wo, en, st, pp, sp, pc, pg, pn, rg, ds, fi, ow, po, pw, pl, qu, ou) ((nI m), ex, (nI c), go, kd, (ux_LN kd ns), wo, (ux_EN en), np, st, qp, sp, pn, pg, rg, (ux_ED ds), pc, fi, ow, po, pl, pw, qu, ou) := by
  obtain ⟨hF, hD, hO, hZ, hR, hU, hI, hL, hB⟩ := id hJ
  obtain ⟨hp, hi, ho, ha, ea, hb, eb⟩ := id H
  have cl : (nI p).toNatClampNeg = p := ux_c (by omega)
  have iv : vp_in (nI p) 5 := vp_in_nI hp (by decide)
  have ca : (nI (p * 4 + a)).toNatClampNeg = p * 4 + a := ux_c (by omega)
  have cb : (nI (p * 4 + b)).toNatClampNeg = p * 4 + b := ux_c (by omega)
  have c3 : (nI (p * 4 + 3)).toNatClampNeg = p * 4 + 3 := ux_c (by omega)
  have va : vp_in (nI (p * 4 + a)) 20 := vp_in_nI (by omega) (by decide)
  have vb : vp_in (nI (p * 4 + b)) 20 := vp_in_nI (by omega) (by decide)
  have v3 : vp_in (nI (p * 4 + 3)) 20 := vp_in_nI (by omega) (by decide)
  have e4 : 4 * nI p + nI a = nI (p * 4 + a) := by rw [ux_l_mul, nI_add, Nat.mul_comm]
  have f4 : 4 * nI p + nI b = nI (p * 4 + b) := by rw [ux_l_mul, nI_add, Nat.mul_comm]
  have x3 : nI p * 4 + 3 = nI (p * 4 + 3) := by rw [ux_mul_l, ux_add_l]
  have y3 : 4 * nI p + 3 = nI (p * 4 + 3) := by rw [ux_l_mul, ux_add_l, Nat.mul_comm]
  rcases ux_ls (fun j => st j = 0) 5 with ⟨k, hk, h0, hj⟩ | hno
  · obtain ⟨⟨d, hd, ed, hd2⟩, q, hq, eq⟩ := (hR p hp).2.2 (Or.inl hs)
    obtain ⟨hm, hJ2, hN2, hkp⟩ := ux_J_fork (d := d) (q := q) hJ hp hs hk h0 hd hd2 hq hN
    have ck : (nI k).toNatClampNeg = k := ux_c (by omega)
    have vk : vp_in (nI k) 5 := vp_in_nI hk (by decide)
    refine ux_G1 (r := 1) (go := 1) (m := m + 1) (qu := upd qu m (nI k)) (st := upd st k 1) (pp := upd pp k (nI p)) (qp := upd qp k (nI p)) (sp := upd (upd sp p (sp p + 1)) k (sp p + 1)) (pc := upd pc k (pc p)) (pn := upd pn k (pn p)) (pg := ux_cs pg (k * 20) (p * 20) 20) (ds := ux_c4 ds k p) (rg := upd (ux_c4 (upd rg (p * 4 + a) (-1)) k p) (p * 4 + a) (nI k)) (ex := ex + 1) (kd := kd) (ns := ns) (np := np) (wo := wo) (en := en) (fi := fi) (ow := ow) (po := po) (pw := pw) (pl := pl) (ou := ou) (c := c) (fun _ h => xj_10 H (fun Q hQ => ?_)) (fun _ h => yj_10 H (fun Q _ hQ => ?_)) (by rw [ed, eq]; exact ux_J_mono hJ2 (by omega)) hN2 (Or.inr ⟨rfl, by rw [ux_un (Ne.symm hkp)]; exact hs⟩)
    · unfold wpX_fork
      refine xa_fp hk h0 hj (br_t (nI_pos' (by omega)) ⟨va, ?_⟩)
      rw [ca]
      refine nm_e (xa_cp hp hk hkp ⟨va, ?_⟩)
      rw [ck, ux_us]
      exact nm_e ⟨vk, nm_e ⟨vk, nm_e (xa_jq hk hm (hQ _ (x634a hp (by rw [ux_un (Ne.symm hkp)]; exact hs) (by decide) h)))⟩⟩
    · rw [ux_ED_c4] at h
      refine ya_fk hp hk hkp (by omega) h0 hj (hQ k _ hk ?_)
      refine y262a hp rfl (by decide) ?_
      rw [ux_un (Ne.symm hkp), ← ux_uc (Ne.symm hkp), ← ux_fkr hkp ha]
      exact h
  · refine ux_G1 (r := 1) (go := 1) (rg := upd rg (p * 4 + a) (-2)) (sp := upd sp p (sp p + 1)) (ex := ex + 1) (kd := kd) (ns := ns) (np := np) (wo := wo) (en := en) (st := st) (pp := pp) (pc := pc) (pg := pg) (pn := pn) (ds := ds) (fi := fi) (ow := ow) (po := po) (pw := pw) (pl := pl) (qu := qu) (ou := ou) (qp := qp) (m := m) (c := c) (fun _ h => xj_10 H (fun Q hQ => ?_)) (fun _ h => yj_10 H (fun Q hQ _ => ?_)) (ux_J_mono hJ (by omega)) hN (Or.inr ⟨rfl, hs⟩)
    · unfold wpX_fork
      refine xa_fp0 hno (br_f (by decide) ⟨va, ?_⟩)
      rw [ca]
      exact nm_e (hQ _ (x634a hp hs (by decide) h))
    · unfold wpY_fork
      exact ya_fp0 hno (br_f (by decide) (hQ _ (y262a hp rfl (by decide) h)))
end UX22
