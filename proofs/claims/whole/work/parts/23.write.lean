section UX23X
variable {ql pr : Int32} {ex : Int64} {kd ns np wo en st pp sp pc pg pn rg ds fi ow po pw pl qu ou : Nat → Int32}
variable {post : SX → Prop} {n q g : Nat} {x : Int32}
theorem xa_pw1 (hn : n < 10) (hq : q < 20) (eg : ns n = nI q) (h : post (ql, pr, ex, kd, upd ns n (nI (q + 1)), np, upd wo (n * 20 + q) x, en, st, pp, sp, pc, pg, pn, rg, ds, fi, ow, po, pw, pl, qu, ou)) : wpX_putWord post (ql, pr, ex, kd, ns, np, wo, en, st, pp, sp, pc, pg, pn, rg, ds, fi, ow, po, pw, pl, qu, ou) (nI n) (nI q) x := by
  unfold wpX_putWord
  have e : nI n * 20 + nI q = nI (n * 20 + q) := by rw [ux_mul_l, nI_add]
  have vn : vp_in (nI n) 10 := vp_in_nI hn (by decide)
  dsimp only
  rw [e, ux_c (n := n * 20 + q) (by omega), ux_c (n := n) (by omega), eg, nI_1]
  exact ⟨vp_in_nI (by omega) (by decide), nm_e ⟨vn, br_t rfl ⟨vn, vn, nm_e h⟩⟩⟩
theorem xa_pw0 (hn : n < 10) (hq : q < 20) (hg : g ≤ 20) (hne : q ≠ g) (eg : ns n = nI g) (h : post (ql, pr, ex, kd, ns, np, upd wo (n * 20 + q) x, en, st, pp, sp, pc, pg, pn, rg, ds, fi, ow, po, pw, pl, qu, ou)) : wpX_putWord post (ql, pr, ex, kd, ns, np, wo, en, st, pp, sp, pc, pg, pn, rg, ds, fi, ow, po, pw, pl, qu, ou) (nI n) (nI q) x := by
  unfold wpX_putWord
  have e : nI n * 20 + nI q = nI (n * 20 + q) := by rw [ux_mul_l, nI_add]
  have vn : vp_in (nI n) 10 := vp_in_nI hn (by decide)
  dsimp only
  rw [e, ux_c (n := n * 20 + q) (by omega), ux_c (n := n) (by omega), eg]
  exact ⟨vp_in_nI (by omega) (by decide), nm_e ⟨vn, br_f (ux_ne hne (by omega) (by omega)) h⟩⟩
end UX23X
section UX23
variable {ql pr : Int32} {ex : Int64} {kd ns np wo en st pp sp pc pg pn rg ds fi ow po pw pl qu ou : Nat → Int32}
variable {qp : Nat → Int32} {go : Int32} {B p s l a b m c : Nat}
theorem op_16f (hJ : ux_J B kd ns np en ds fi ow po st pp qp pc pn pl qu m c) (hN : ux_N qu m p) (hs : st p = 1) (H : ux_in sp pn pg p s l a b 16) {w : Int32} (hv : ux_hv ds p (rg (p * 4 + b)) w)
    (hw : (∃ t, w = nI t ∧ (t < 8192 ∨ 8192 + 2 ≤ t) ∧ t < 100000 ∧ (t < 1 ∨ 9 ≤ t) ∧ ∃ t2, ux_cv w = nI t2 ∧ (t2 < 201 ∨ 202 < t2) ∧ (t2 < 1 ∨ 8 < t2) ∧ t2 < 100000) ∨ (∃ o, o < 8 ∧ w = nI (1 + o) ∧ (ow o = 0 ∨ (ow o ≠ 0 ∧ ∃ n q g, n < 10 ∧ fi o = nI n ∧ kd n = 1 ∧ q ≤ 20 ∧ po o = nI q ∧ g ≤ 20 ∧ ns n = nI g ∧ (20 ≤ q ∨ g < q))))) : ux_G (B + 1) p (nI m, nI c, ex + 1, kd, ns, np, wo, en, st, pp, sp, pc, pg, pn, rg, ds, fi, ow, po, pw, pl, qu, ou) ((nI m), ex, (nI c), go, kd, (ux_LN kd ns), wo, (ux_EN en), np, st, qp, sp, pn, pg, rg, (ux_ED ds), pc, fi, ow, po, pl, pw, qu, ou) := by
  obtain ⟨hF, hD, hO, hZ, hR, hU, hI, hL, hB⟩ := id hJ
  obtain ⟨hp, hi, ho, ha, ea, hb, eb⟩ := id H
  have cl : (nI p).toNatClampNeg = p := ux_c (by omega)
  have iv : vp_in (nI p) 5 := vp_in_nI hp (by decide)
  have ca : (nI (p * 4 + a)).toNatClampNeg = p * 4 + a := ux_c (by omega)
  have cb : (nI (p * 4 + b)).toNatClampNeg = p * 4 + b := ux_c (by omega)
  have c3 : (nI (p * 4 + 3)).toNatClampNeg = p * 4 + 3 := ux_c (by omega)
  have va : vp_in (nI (p * 4 + a)) 20 := vp_in_nI (by omega) (by decide)
  have vb : vp_in (nI (p * 4 + b)) 20 := vp_in_nI (by omega) (by decide)
  have v3 : vp_in (nI (p * 4 + 3)) 20 := vp_in_nI (by omega) (by decide)
  have e4 : 4 * nI p + nI a = nI (p * 4 + a) := by rw [ux_l_mul, nI_add, Nat.mul_comm]
  have f4 : 4 * nI p + nI b = nI (p * 4 + b) := by rw [ux_l_mul, nI_add, Nat.mul_comm]
  have x3 : nI p * 4 + 3 = nI (p * 4 + 3) := by rw [ux_mul_l, ux_add_l]
  have y3 : 4 * nI p + 3 = nI (p * 4 + 3) := by rw [ux_l_mul, ux_add_l, Nat.mul_comm]
  refine ux_G1 (r := 1) (go := 1) (rg := upd rg (p * 4 + 3) (-1)) (sp := upd sp p (sp p + 1)) (ex := ex + 1) (kd := kd) (ns := ns) (np := np) (wo := wo) (en := en) (st := st) (pp := pp) (pc := pc) (pg := pg) (pn := pn) (ds := ds) (fi := fi) (ow := ow) (po := po) (pw := pw) (pl := pl) (qu := qu) (ou := ou) (qp := qp) (m := m) (c := c) (fun _ h => xj_16 H (fun Q hQ => ?_)) (fun _ h => yj_16 H (fun Q hQ => ?_)) (ux_J_mono hJ (by omega)) hN (Or.inr ⟨rfl, hs⟩)
  · have hX : wX_write_93 Q (nI p) (nI m) (nI c) (ex + 1) kd ns np wo en st pp (upd sp p (sp p + 1)) pc pg pn rg ds fi ow po pw pl qu ou := xa_fail hp (hQ _ (x634a hp hs (by decide) h))
    have hX2 := hQ (nI m, nI c, ex + 1, kd, ns, np, wo, en, st, pp, upd sp p (sp p + 1), pc, pg, pn, upd rg (p * 4 + 3) (-1), ds, fi, ow, po, pw, pl, qu, ou) (x634a hp hs (by decide) h)
    unfold wpX_write
    dsimp only
    rw [cb]
    refine ⟨vb, xa_ha hp hv ?_⟩
    rcases hw with ⟨t, e1, h1, h2, h3, _⟩ | ⟨o, ho8, e1, h1⟩
    · rw [e1]
      exact xa_pN (e := 8192) h1 h2 (by omega) (br_t (by decide) (xa_io0 h3 h2 (br_t rfl hX)))
    · rw [e1]
      refine xa_pN (e := 8192) (by omega) (by omega) (by omega) (br_t (by decide) (xa_io1 (by omega) (by omega) (br_f (by decide) ?_)))
      rw [ux_so, ux_c (n := o) (by omega)]
      refine ⟨vp_in_nI ho8 (by decide), ?_⟩
      rcases h1 with h1 | ⟨h1, n, q, g, hn, en', hk, hq, eq, hg, eg, hbad⟩
      · exact br_t h1 hX
      · refine br_f h1 ⟨va, ?_⟩
        have vo : vp_in (nI o) 8 := vp_in_nI ho8 (by decide)
        unfold wpX_writeFile
        dsimp only
        rw [ux_c (n := o) (by omega), ca]
        refine ⟨vo, nm_r en' ⟨vo, nm_r eq ?_⟩⟩
        rw [x3, c3]
        by_cases h20 : 20 ≤ q
        · exact br_t (nI_le (a := 20) h20 (by omega)) ⟨v3, nm_e hX2⟩
        · refine br_f (nI_ge (b := 20) (by omega) (by decide)) ⟨vp_in_nI hn (by decide), ?_⟩
          rw [ux_c (n := n) (by omega), eg]
          exact br_f (nI_ge (by omega) (by omega)) ⟨v3, nm_e hX2⟩
  · have hX : wY_write_192 Q (nI p) (nI m) (ex + 1) (nI c) 1 kd (ux_LN kd ns) wo (ux_EN en) np st qp sp pn pg rg (ux_ED ds) pc fi ow po pl pw qu ou := ya_fail hp (hQ _ (y262a hp rfl (by decide) h))
    unfold wpY_write
    refine ya_eO hp hb hv ?_
    rw [e4, ca]
    refine ⟨va, nm_e ?_⟩
    rcases hw with ⟨t, _, _, _, _, t2, e1, h1, h2, h3⟩ | ⟨o, ho8, e1, h1⟩
    · rw [e1]
      refine ya_inO (b := 201) (e := 202) h1 h3 (by omega) (br_t rfl (ya_inO (b := 1) (e := 8) h2 h3 (by omega) (br_t rfl ?_)))
      exact ⟨vp_in_iff.mpr (by decide), nm_e (ya_inO (b := 1) (e := 8) h2 h3 (by omega) (br_t rfl hX))⟩
    · rw [e1, ux_cvo o ho8]
      refine ya_inO (b := 201) (e := 202) (by omega) (by omega) (by omega) (br_t rfl (ya_inN (b := 1) (e := 8) (by omega) (by omega) (by omega) (br_f (by decide) ?_)))
      have vo : vp_in (nI o) 8 := vp_in_nI ho8 (by decide)
      rw [ux_so o]
      unfold wY_write_130
      rw [ux_c (n := o) (by omega)]
      refine ⟨vo, nm_e (ya_inN (b := 1) (e := 8) (by omega) (by omega) (by omega) (br_f (by decide) ⟨vo, ?_⟩))⟩
      rcases h1 with h1 | ⟨h1, n, q, g, hn, en', hk, hq, eq, hg, eg, hbad⟩
      · exact br_t h1 hX
      · rw [en', eq, ux_c (n := n) (by omega), ux_LN_f (by rw [hk]; exact ux_n12), eg]
        refine br_f h1 ⟨vo, vp_in_nI hn (by decide), ?_⟩
        by_cases hgq : g < q
        · exact br_t (nI_lt hgq (by omega)) hX
        · refine br_f (nI_nlt (by omega) (by omega)) ⟨vo, br_t ?_ hX⟩
          have : q = 20 := by omega
          rw [this]; rfl
theorem op_16o (hJ : ux_J B kd ns np en ds fi ow po st pp qp pc pn pl qu m c) (hN : ux_N qu m p) (hs : st p = 1) (H : ux_in sp pn pg p s l a b 16) {o n q g : Nat} (ho8 : o < 8) (hv : ux_hv ds p (rg (p * 4 + b)) (nI (1 + o))) (how : ow o ≠ 0) (hn : n < 10) (en' : fi o = nI n) (hk : kd n = 1) (hq : q < 20) (eq : po o = nI q) (hg : g ≤ 20) (eg : ns n = nI g) (hqg : q ≤ g) : ux_G (B + 1) p (nI m, nI c, ex + 1, kd, ns, np, wo, en, st, pp, sp, pc, pg, pn, rg, ds, fi, ow, po, pw, pl, qu, ou) ((nI m), ex, (nI c), go, kd, (ux_LN kd ns), wo, (ux_EN en), np, st, qp, sp, pn, pg, rg, (ux_ED ds), pc, fi, ow, po, pl, pw, qu, ou) := by
  obtain ⟨hF, hD, hO, hZ, hR, hU, hI, hL, hB⟩ := id hJ
  obtain ⟨hp, hi, ho, ha, ea, hb, eb⟩ := id H
  have cl : (nI p).toNatClampNeg = p := ux_c (by omega)
  have iv : vp_in (nI p) 5 := vp_in_nI hp (by decide)
  have ca : (nI (p * 4 + a)).toNatClampNeg = p * 4 + a := ux_c (by omega)
  have cb : (nI (p * 4 + b)).toNatClampNeg = p * 4 + b := ux_c (by omega)
  have c3 : (nI (p * 4 + 3)).toNatClampNeg = p * 4 + 3 := ux_c (by omega)
  have va : vp_in (nI (p * 4 + a)) 20 := vp_in_nI (by omega) (by decide)
  have vb : vp_in (nI (p * 4 + b)) 20 := vp_in_nI (by omega) (by decide)
  have v3 : vp_in (nI (p * 4 + 3)) 20 := vp_in_nI (by omega) (by decide)
  have e4 : 4 * nI p + nI a = nI (p * 4 + a) := by rw [ux_l_mul, nI_add, Nat.mul_comm]
  have f4 : 4 * nI p + nI b = nI (p * 4 + b) := by rw [ux_l_mul, nI_add, Nat.mul_comm]
  have x3 : nI p * 4 + 3 = nI (p * 4 + 3) := by rw [ux_mul_l, ux_add_l]
  have y3 : 4 * nI p + 3 = nI (p * 4 + 3) := by rw [ux_l_mul, ux_add_l, Nat.mul_comm]
  have co : (nI o).toNatClampNeg = o := ux_c (by omega)
  have vo : vp_in (nI o) 8 := vp_in_nI ho8 (by decide)
  have cn : (nI n).toNatClampNeg = n := ux_c (by omega)
  have vn : vp_in (nI n) 10 := vp_in_nI hn (by decide)
  have es : nI (1 + o) - 1 = nI o := ux_so o
  have eL : ux_LN kd ns n = nI g := by rw [ux_LN_f (by rw [hk]; exact ux_n12), eg]
  have y20 : 20 * nI n + nI q = nI (n * 20 + q) := by rw [ux_l_mul, nI_add, Nat.mul_comm]
  have cq : (nI (n * 20 + q)).toNatClampNeg = n * 20 + q := ux_c (by omega)
  have vq : vp_in (nI (n * 20 + q)) 200 := vp_in_nI (by omega) (by decide)
  by_cases hne : q = g
  · subst hne
    refine ux_G1 (r := 1) (go := 1) (rg := upd rg (p * 4 + 3) 1) (wo := upd wo (n * 20 + q) (rg (p * 4 + a))) (ns := upd ns n (nI (q + 1))) (po := upd po o (nI (q + 1))) (sp := upd sp p (sp p + 1)) (ex := ex + 1) (kd := kd) (np := np) (en := en) (st := st) (pp := pp) (pc := pc) (pg := pg) (pn := pn) (ds := ds) (fi := fi) (ow := ow) (pw := pw) (pl := pl) (qu := qu) (ou := ou) (qp := qp) (m := m) (c := c) (fun _ h => xj_16 H (fun Q hQ => ?_)) (fun _ h => yj_16 H (fun Q hQ => ?_)) (ux_J_mono (ux_J_po (ux_J_ns hJ hk (by omega)) (by omega)) (by omega)) hN (Or.inr ⟨rfl, hs⟩)
    · unfold wpX_write
      dsimp only
      rw [cb]
      refine ⟨vb, xa_ha hp hv (xa_pN (e := 8192) (by omega) (by omega) (by omega) (br_t (by decide) (xa_io1 (by omega) (by omega) (br_f (by decide) ?_))))⟩
      rw [es, co, ca]
      refine ⟨vo, br_f how ⟨va, ?_⟩⟩
      unfold wpX_writeFile
      dsimp only
      rw [co]
      refine ⟨vo, nm_r en' ⟨vo, nm_r eq (br_f (nI_ge (b := 20) hq (by decide)) ⟨vn, ?_⟩)⟩⟩
      rw [cn, eg]
      refine br_t (nI_le (Nat.le_refl _) (by omega)) (xa_pw1 hn hq eg ⟨vo, vo, ?_⟩)
      dsimp only
      rw [eq, nI_1]
      refine nm_e ⟨by rw [x3]; exact v3, ?_⟩
      rw [x3, c3]
      exact nm_e (hQ _ (x634a hp hs (by decide) h))
    · rw [ux_LN_u (by rw [hk]; exact ux_n12)] at h
      unfold wpY_write
      refine ya_eO hp hb hv ?_
      rw [e4, ca, ux_cvo o ho8]
      refine ⟨va, nm_e (ya_inO (b := 201) (e := 202) (by omega) (by omega) (by omega) (br_t rfl (ya_inN (b := 1) (e := 8) (by omega) (by omega) (by omega) (br_f (by decide) ?_))))⟩
      rw [es]
      unfold wY_write_130
      rw [co, en']
      refine ⟨vo, nm_e (ya_inN (b := 1) (e := 8) (by omega) (by omega) (by omega) (br_f (by decide) ⟨vo, br_f how ⟨vo, ?_⟩⟩))⟩
      rw [cn, eL, eq, y20, cq, nI_1]
      refine ⟨vn, br_f (nI_nlt (Nat.le_refl _) (by omega)) ⟨vo, br_f (ux_ne (b := 20) (by omega) (by omega) (by omega)) ⟨vo, vq, nm_e ⟨vo, vn, br_t rfl ⟨vn, vn, nm_e ?_⟩⟩⟩⟩⟩
      unfold wY_write_246
      rw [co, eq, nI_1]
      exact ⟨vo, vo, nm_e (ya_done hp (hQ _ (y262a hp rfl (by decide) h)))⟩
  · refine ux_G1 (r := 1) (go := 1) (rg := upd rg (p * 4 + 3) 1) (wo := upd wo (n * 20 + q) (rg (p * 4 + a))) (po := upd po o (nI (q + 1))) (sp := upd sp p (sp p + 1)) (ex := ex + 1) (kd := kd) (ns := ns) (np := np) (en := en) (st := st) (pp := pp) (pc := pc) (pg := pg) (pn := pn) (ds := ds) (fi := fi) (ow := ow) (pw := pw) (pl := pl) (qu := qu) (ou := ou) (qp := qp) (m := m) (c := c) (fun _ h => xj_16 H (fun Q hQ => ?_)) (fun _ h => yj_16 H (fun Q hQ => ?_)) (ux_J_mono (ux_J_po hJ (by omega)) (by omega)) hN (Or.inr ⟨rfl, hs⟩)
    · unfold wpX_write
      dsimp only
      rw [cb]
      refine ⟨vb, xa_ha hp hv (xa_pN (e := 8192) (by omega) (by omega) (by omega) (br_t (by decide) (xa_io1 (by omega) (by omega) (br_f (by decide) ?_))))⟩
      rw [es, co, ca]
      refine ⟨vo, br_f how ⟨va, ?_⟩⟩
      unfold wpX_writeFile
      dsimp only
      rw [co]
      refine ⟨vo, nm_r en' ⟨vo, nm_r eq (br_f (nI_ge (b := 20) hq (by decide)) ⟨vn, ?_⟩)⟩⟩
      rw [cn, eg]
      refine br_t (nI_le hqg (by omega)) (xa_pw0 hn hq hg hne eg ⟨vo, vo, ?_⟩)
      dsimp only
      rw [eq, nI_1]
      refine nm_e ⟨by rw [x3]; exact v3, ?_⟩
      rw [x3, c3]
      exact nm_e (hQ _ (x634a hp hs (by decide) h))
    · unfold wpY_write
      refine ya_eO hp hb hv ?_
      rw [e4, ca, ux_cvo o ho8]
      refine ⟨va, nm_e (ya_inO (b := 201) (e := 202) (by omega) (by omega) (by omega) (br_t rfl (ya_inN (b := 1) (e := 8) (by omega) (by omega) (by omega) (br_f (by decide) ?_))))⟩
      rw [es]
      unfold wY_write_130
      rw [co, en']
      refine ⟨vo, nm_e (ya_inN (b := 1) (e := 8) (by omega) (by omega) (by omega) (br_f (by decide) ⟨vo, br_f how ⟨vo, ?_⟩⟩))⟩
      rw [cn, eL, eq, y20, cq]
      refine ⟨vn, br_f (nI_nlt hqg (by omega)) ⟨vo, br_f (ux_ne (b := 20) (by omega) (by omega) (by omega)) ⟨vo, vq, nm_e ⟨vo, vn, br_f (ux_ne hne (by omega) (by omega)) ?_⟩⟩⟩⟩
      unfold wY_write_246
      rw [co, eq, nI_1]
      exact ⟨vo, vo, nm_e (ya_done hp (hQ _ (y262a hp rfl (by decide) h)))⟩
theorem op_16p (hJ : ux_J B kd ns np en ds fi ow po st pp qp pc pn pl qu m c) (hN : ux_N qu m p) (hs : st p = 1) (H : ux_in sp pn pg p s l a b 16) {k : Nat} (hk : k < 2) (hv : ux_hv ds p (rg (p * 4 + b)) (nI (8192 + k))) (hnw : ux_hd ds (nI (4096 + k)) → pl k ≠ 4) : ux_G (B + 1) p (nI m, nI c, ex + 1, kd, ns, np, wo, en, st, pp, sp, pc, pg, pn, rg, ds, fi, ow, po, pw, pl, qu, ou) ((nI m), ex, (nI c), go, kd, (ux_LN kd ns), wo, (ux_EN en), np, st, qp, sp, pn, pg, rg, (ux_ED ds), pc, fi, ow, po, pl, pw, qu, ou) := by
  obtain ⟨hF, hD, hO, hZ, hR, hU, hI, hL, hB⟩ := id hJ
  obtain ⟨hp, hi, ho, ha, ea, hb, eb⟩ := id H
  have cl : (nI p).toNatClampNeg = p := ux_c (by omega)
  have iv : vp_in (nI p) 5 := vp_in_nI hp (by decide)
  have ca : (nI (p * 4 + a)).toNatClampNeg = p * 4 + a := ux_c (by omega)
  have cb : (nI (p * 4 + b)).toNatClampNeg = p * 4 + b := ux_c (by omega)
  have c3 : (nI (p * 4 + 3)).toNatClampNeg = p * 4 + 3 := ux_c (by omega)
  have va : vp_in (nI (p * 4 + a)) 20 := vp_in_nI (by omega) (by decide)
  have vb : vp_in (nI (p * 4 + b)) 20 := vp_in_nI (by omega) (by decide)
  have v3 : vp_in (nI (p * 4 + 3)) 20 := vp_in_nI (by omega) (by decide)
  have e4 : 4 * nI p + nI a = nI (p * 4 + a) := by rw [ux_l_mul, nI_add, Nat.mul_comm]
  have f4 : 4 * nI p + nI b = nI (p * 4 + b) := by rw [ux_l_mul, nI_add, Nat.mul_comm]
  have x3 : nI p * 4 + 3 = nI (p * 4 + 3) := by rw [ux_mul_l, ux_add_l]
  have y3 : 4 * nI p + 3 = nI (p * 4 + 3) := by rw [ux_l_mul, ux_add_l, Nat.mul_comm]
  have es : nI (201 + k) - 201 = nI k := ux_s201 k
  have e1 : nI (201 + k) - 100 = nI (101 + k) := ux_s100 k
  have ck : (nI k).toNatClampNeg = k := ux_c (by omega)
  have vk : vp_in (nI k) 2 := vp_in_nI hk (by decide)
  by_cases hh : ux_hd ds (nI (4096 + k))
  · obtain ⟨g, hg, eg⟩ := hI k hk
    have hg4 : g < 4 := by
      have h4 := hnw hh
      by_cases z : g = 4
      · rw [eg, z] at h4; exact absurd rfl h4
      · omega
    have xg : nI k * 4 + nI g = nI (k * 4 + g) := by rw [ux_mul_l, nI_add]
    have yg : 4 * nI k + nI g = nI (k * 4 + g) := by rw [ux_l_mul, nI_add, Nat.mul_comm]
    have cg : (nI (k * 4 + g)).toNatClampNeg = k * 4 + g := ux_c (by omega)
    have vg : vp_in (nI (k * 4 + g)) 8 := vp_in_nI (by omega) (by decide)
    refine ux_G1 (r := 1) (go := 1) (rg := upd rg (p * 4 + 3) 1) (pw := upd pw (k * 4 + g) (rg (p * 4 + a))) (pl := upd pl k (nI (g + 1))) (sp := upd sp p (sp p + 1)) (ex := ex + 1) (kd := kd) (ns := ns) (np := np) (wo := wo) (en := en) (st := st) (pp := pp) (pc := pc) (pg := pg) (pn := pn) (ds := ds) (fi := fi) (ow := ow) (po := po) (qu := qu) (ou := ou) (qp := qp) (m := m) (c := c) (fun _ h => xj_16 H (fun Q hQ => ?_)) (fun _ h => yj_16 H (fun Q hQ => ?_)) (ux_J_mono (ux_J_pl hJ (by omega)) (by omega)) hN (Or.inr ⟨rfl, hs⟩)
    · unfold wpX_write
      dsimp only
      rw [cb, ca]
      refine ⟨vb, xa_ha hp hv (xa_pY (e := 8192) hk (by omega) (br_f (nI_pos (by omega)) ⟨va, ?_⟩))⟩
      unfold wpX_writePipe
      dsimp only
      rw [ux_l_add]
      refine xa_ih1 hh (br_f (by decide) ⟨vk, ?_⟩)
      rw [ck, eg, xg, cg, x3, c3, nI_1]
      exact br_f (nI_ge (b := 4) hg4 (by decide)) ⟨vk, vg, nm_e ⟨vk, vk, nm_e ⟨v3, nm_e (hQ _ (x634a hp hs (by decide) h))⟩⟩⟩
    · unfold wpY_write
      refine ya_eO hp hb hv ?_
      rw [e4, ca, ux_cvw k hk, e1, es]
      refine ⟨va, nm_e (ya_inN (b := 201) (e := 202) (by omega) (by omega) (by omega) (br_f (by decide) (ya_h1 ((ux_hd_r hD hk).mpr hh) (br_f (by decide) ⟨vk, ?_⟩))))⟩
      rw [ck, eg, yg, cg, nI_1]
      exact ⟨vg, nm_e ⟨vk, vk, nm_e (ya_done hp (hQ _ (y262a hp rfl (by decide) h)))⟩⟩
  · obtain ⟨x, hx, hx1, hx2, hown⟩ := ux_px hR hp (Or.inl hs)
    refine ux_G2 (r := 0) (go := 0) (ds := ux_zp ds p) (pp := ux_p1 pp p 5) (qp := ux_p2 st qp p 5) (st := upd (ux_s1 st pp p 5) p x) (sp := upd sp p (-2)) (ex := ex + 1) (kd := kd) (ns := ns) (np := np) (wo := wo) (en := en) (pc := pc) (pg := pg) (pn := pn) (rg := rg) (fi := fi) (ow := ow) (po := po) (pw := pw) (pl := pl) (qu := qu) (ou := ou) (m := m) (c := c) (fun _ h => xj_16 H (fun Q hQ => ?_)) (fun _ h => yj_16 H (fun Q hQ => ?_)) (ux_D_zp hD) (ux_J_mono (ux_J_end hJ hp (Or.inl hs) hx hU hN) (by omega)) hN (Or.inl rfl)
    · unfold wpX_write
      dsimp only
      rw [cb, ca]
      refine ⟨vb, xa_ha hp hv (xa_pY (e := 8192) hk (by omega) (br_f (nI_pos (by omega)) ⟨va, ?_⟩))⟩
      unfold wpX_writePipe
      dsimp only
      rw [ux_l_add]
      refine xa_ih0 hh (br_t rfl (xa_en hp hown hx1 (hQ _ ?_)))
      have key := x634e (x := 16) (st := upd (ux_s1 st pp p 5) p x) hp (by rw [ux_us]; exact ux_x1 hx) h
      rw [← ux_uu (f := sp) (k := p) (x := sp p + 1)] at key
      exact key
    · unfold wpY_write
      refine ya_eO hp hb hv ?_
      rw [e4, ca, ux_cvw k hk, e1]
      exact ⟨va, nm_e (ya_inN (b := 201) (e := 202) (by omega) (by omega) (by omega) (br_f (by decide) (ya_h0 (fun z => hh ((ux_hd_r hD hk).mp z)) (br_t rfl (ye_self hJ hN hp (Or.inl hs) hx2 (hQ _ (y262e rfl h)))))))⟩
theorem op_16 (hJ : ux_J B kd ns np en ds fi ow po st pp qp pc pn pl qu m c) (hN : ux_N qu m p) (hs : st p = 1) (H : ux_in sp pn pg p s l a b 16) (hnw : ux_NW pg rg ds pl p s) : ux_G (B + 1) p (nI m, nI c, ex + 1, kd, ns, np, wo, en, st, pp, sp, pc, pg, pn, rg, ds, fi, ow, po, pw, pl, qu, ou) ((nI m), ex, (nI c), go, kd, (ux_LN kd ns), wo, (ux_EN en), np, st, qp, sp, pn, pg, rg, (ux_ED ds), pc, fi, ow, po, pl, pw, qu, ou) := by
  obtain ⟨hF, hD, hO, hZ, hR, hU, hI, hL, hB⟩ := id hJ
  obtain ⟨hp, hi, ho, ha, ea, hb, eb⟩ := id H
  obtain ⟨w, hv, hV⟩ := ux_hvE hD hp (rg (p * 4 + b))
  rcases id hV with h | ⟨o, ho8, h⟩ | ⟨k, hk, h⟩ | ⟨k, hk, h⟩
  · exact op_16f hJ hN hs H hv (Or.inl ⟨0, h, by omega, by omega, by omega, 0, by rw [h, ux_cv0]; rfl, by omega, by omega, by omega⟩)
  · have hx : ∃ d, d < 20 ∧ ds d = nI (1 + o) := by
      rcases id hv with ⟨d, hd, _, e2⟩ | ⟨_, e2⟩
      · exact ⟨p * 4 + d, by omega, by rw [← e2]; exact h⟩
      · rw [e2] at h; exact absurd h.symm (ux_nz (by omega) (by omega))
    obtain ⟨d, hd, e⟩ := hx
    obtain ⟨⟨n, n0, n1, n2, n3⟩, how, q, hq, eq⟩ := hO d o hd ho8 e
    obtain ⟨g, hg, eg⟩ := (hF.2.2.2.2 n n1).2 n3
    by_cases h0 : ow o = 0
    · exact op_16f hJ hN hs H hv (Or.inr ⟨o, ho8, h, Or.inl h0⟩)
    · by_cases hbad : 20 ≤ q ∨ g < q
      · exact op_16f hJ hN hs H hv (Or.inr ⟨o, ho8, h, Or.inr ⟨h0, n, q, g, n1, n2, n3, hq, eq, hg, eg, hbad⟩⟩)
      · subst h
        exact op_16o hJ hN hs H ho8 hv h0 n1 n2 n3 (by omega) eq hg eg (by omega)
  · exact op_16f hJ hN hs H hv (Or.inl ⟨4096 + k, h, by omega, by omega, by omega, 101 + k, by rw [h, ux_cvr k hk], by omega, by omega, by omega⟩)
  · subst h
    exact op_16p hJ hN hs H hk hv (fun hh => hnw b k hb hk ho eb hv hh)
end UX23
