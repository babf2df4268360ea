section UX19
variable {ql pr : Int32} {ex : Int64} {kd ns np wo en st pp sp pc pg pn rg ds fi ow po pw pl qu ou : Nat → Int32}
variable {qp : Nat → Int32} {go : Int32} {B p s l a b m c : Nat}
theorem ux_k7 : ∀ k, k < 8 → nI k &&& 7 = nI k := by decide +kernel
/-- READ fails -/
theorem op_15f (hJ : ux_J B kd ns np en ds fi ow po st pp qp pc pn pl qu m c) (hN : ux_N qu m p) (hs : st p = 1) (H : ux_in sp pn pg p s l a b 15) {w : Int32} (hv : ux_hv ds p (rg (p * 4 + b)) w)
    (hw : (∃ t, w = nI t ∧ (t < 4096 ∨ 4096 + 2 ≤ t) ∧ t < 100000 ∧ (t < 1 ∨ 9 ≤ t) ∧ ∃ t2, ux_cv w = nI t2 ∧ (t2 < 101 ∨ 102 < t2) ∧ (t2 < 1 ∨ 8 < t2) ∧ t2 < 100000) ∨ (∃ o, o < 8 ∧ w = nI (1 + o) ∧ ow o ≠ 0)) : ux_G (B + 1) p (nI m, nI c, ex + 1, kd, ns, np, wo, en, st, pp, sp, pc, pg, pn, rg, ds, fi, ow, po, pw, pl, qu, ou) ((nI m), ex, (nI c), go, kd, (ux_LN kd ns), wo, (ux_EN en), np, st, qp, sp, pn, pg, rg, (ux_ED ds), pc, fi, ow, po, pl, pw, qu, ou) := by
  obtain ⟨hF, hD, hO, hZ, hR, hU, hI, hL, hB⟩ := id hJ
  obtain ⟨hp, hi, ho, ha, ea, hb, eb⟩ := id H
  have cl : (nI p).toNatClampNeg = p := ux_c (by omega)
  have iv : vp_in (nI p) 5 := vp_in_nI hp (by decide)
  have ca : (nI (p * 4 + a)).toNatClampNeg = p * 4 + a := ux_c (by omega)
  have cb : (nI (p * 4 + b)).toNatClampNeg = p * 4 + b := ux_c (by omega)
  have c3 : (nI (p * 4 + 3)).toNatClampNeg = p * 4 + 3 := ux_c (by omega)
  have va : vp_in (nI (p * 4 + a)) 20 := vp_in_nI (by omega) (by decide)
  have vb : vp_in (nI (p * 4 + b)) 20 := vp_in_nI (by omega) (by decide)
  have v3 : vp_in (nI (p * 4 + 3)) 20 := vp_in_nI (by omega) (by decide)
  have e4 : 4 * nI p + nI a = nI (p * 4 + a) := by rw [ux_l_mul, nI_add, Nat.mul_comm]
  have f4 : 4 * nI p + nI b = nI (p * 4 + b) := by rw [ux_l_mul, nI_add, Nat.mul_comm]
  have x3 : nI p * 4 + 3 = nI (p * 4 + 3) := by rw [ux_mul_l, ux_add_l]
  have y3 : 4 * nI p + 3 = nI (p * 4 + 3) := by rw [ux_l_mul, ux_add_l, Nat.mul_comm]
  refine ux_G1 (r := 1) (go := 1) (rg := upd rg (p * 4 + 3) (-1)) (sp := upd sp p (sp p + 1)) (ex := ex + 1) (kd := kd) (ns := ns) (np := np) (wo := wo) (en := en) (st := st) (pp := pp) (pc := pc) (pg := pg) (pn := pn) (ds := ds) (fi := fi) (ow := ow) (po := po) (pw := pw) (pl := pl) (qu := qu) (ou := ou) (qp := qp) (m := m) (c := c) (fun _ h => xj_15 H (fun Q hQ => ?_)) (fun _ h => yj_15 H (fun Q hQ => ?_)) (ux_J_mono hJ (by omega)) hN (Or.inr ⟨rfl, hs⟩)
  · have hX : wX_read_74 Q (nI p) (nI m) (nI c) (ex + 1) kd ns np wo en st pp (upd sp p (sp p + 1)) pc pg pn rg ds fi ow po pw pl qu ou := xa_fail hp (hQ _ (x634a hp hs (by decide) h))
    unfold wpX_read
    dsimp only
    rw [cb]
    refine ⟨vb, xa_ha hp hv ?_⟩
    rcases hw with ⟨t, e1, h1, h2, h3, _⟩ | ⟨o, ho, e1, h1⟩
    · rw [e1]
      exact xa_pN (e := 4096) h1 h2 (by omega) (br_t (by decide) (xa_io0 h3 h2 (br_t rfl hX)))
    · rw [e1]
      refine xa_pN (e := 4096) (by omega) (by omega) (by omega) (br_t (by decide) (xa_io1 (by omega) (by omega) (br_f (by decide) ?_)))
      rw [ux_so, ux_c (n := o) (by omega)]
      exact ⟨vp_in_nI ho (by decide), br_f h1 hX⟩
  · have hX : wY_read_59 Q (nI p) (nI m) (ex + 1) (nI c) 1 kd (ux_LN kd ns) wo (ux_EN en) np st qp sp pn pg rg (ux_ED ds) pc fi ow po pl pw qu ou := ya_fail hp (hQ _ (y262a hp rfl (by decide) h))
    unfold wpY_read
    refine ya_eO hp hb hv ?_
    rcases hw with ⟨t, _, _, _, _, t2, e1, h1, h2, h3⟩ | ⟨o, ho, e1, h1⟩
    · rw [e1]
      exact ya_inO (b := 101) (e := 102) h1 h3 (by omega) (br_t rfl (ya_inO (b := 1) (e := 8) h2 h3 (by omega) (br_t rfl hX)))
    · rw [e1, ux_cvo o ho]
      refine ya_inO (b := 101) (e := 102) (by omega) (by omega) (by omega) (br_t rfl (ya_inN (b := 1) (e := 8) (by omega) (by omega) (by omega) (br_f (by decide) ?_)))
      rw [ux_so, ux_c (n := o) (by omega)]
      exact ⟨vp_in_nI ho (by decide), br_f h1 hX⟩
/-- READ of a file -/
theorem op_15o (hJ : ux_J B kd ns np en ds fi ow po st pp qp pc pn pl qu m c) (hN : ux_N qu m p) (hs : st p = 1) (H : ux_in sp pn pg p s l a b 15) {o : Nat} (ho8 : o < 8) (hv : ux_hv ds p (rg (p * 4 + b)) (nI (1 + o))) (how : ow o = 0) {n q g : Nat} (hn : n < 10) (en' : fi o = nI n) (hk : kd n = 1) (hq : q ≤ 20) (eq : po o = nI q) (hg : g ≤ 20) (eg : ns n = nI g) : ux_G (B + 1) p (nI m, nI c, ex + 1, kd, ns, np, wo, en, st, pp, sp, pc, pg, pn, rg, ds, fi, ow, po, pw, pl, qu, ou) ((nI m), ex, (nI c), go, kd, (ux_LN kd ns), wo, (ux_EN en), np, st, qp, sp, pn, pg, rg, (ux_ED ds), pc, fi, ow, po, pl, pw, qu, ou) := by
  obtain ⟨hF, hD, hO, hZ, hR, hU, hI, hL, hB⟩ := id hJ
  obtain ⟨hp, hi, ho, ha, ea, hb, eb⟩ := id H
  have cl : (nI p).toNatClampNeg = p := ux_c (by omega)
  have iv : vp_in (nI p) 5 := vp_in_nI hp (by decide)
  have ca : (nI (p * 4 + a)).toNatClampNeg = p * 4 + a := ux_c (by omega)
  have cb : (nI (p * 4 + b)).toNatClampNeg = p * 4 + b := ux_c (by omega)
  have c3 : (nI (p * 4 + 3)).toNatClampNeg = p * 4 + 3 := ux_c (by omega)
  have va : vp_in (nI (p * 4 + a)) 20 := vp_in_nI (by omega) (by decide)
  have vb : vp_in (nI (p * 4 + b)) 20 := vp_in_nI (by omega) (by decide)
  have v3 : vp_in (nI (p * 4 + 3)) 20 := vp_in_nI (by omega) (by decide)
  have e4 : 4 * nI p + nI a = nI (p * 4 + a) := by rw [ux_l_mul, nI_add, Nat.mul_comm]
  have f4 : 4 * nI p + nI b = nI (p * 4 + b) := by rw [ux_l_mul, nI_add, Nat.mul_comm]
  have x3 : nI p * 4 + 3 = nI (p * 4 + 3) := by rw [ux_mul_l, ux_add_l]
  have y3 : 4 * nI p + 3 = nI (p * 4 + 3) := by rw [ux_l_mul, ux_add_l, Nat.mul_comm]
  have co : (nI o).toNatClampNeg = o := ux_c (by omega)
  have vo : vp_in (nI o) 8 := vp_in_nI ho8 (by decide)
  have cn : (nI n).toNatClampNeg = n := ux_c (by omega)
  have vn : vp_in (nI n) 10 := vp_in_nI hn (by decide)
  have es : nI (1 + o) - 1 = nI o := ux_so o
  have eL : ux_LN kd ns n = nI g := by rw [ux_LN_f (by rw [hk]; exact ux_n12), eg]
  have x20 : nI n * 20 + nI q = nI (n * 20 + q) := by rw [ux_mul_l, nI_add]
  have y20 : 20 * nI n + nI q = nI (n * 20 + q) := by rw [ux_l_mul, nI_add, Nat.mul_comm]
  by_cases hlt : q < g
  · have cq : (nI (n * 20 + q)).toNatClampNeg = n * 20 + q := ux_c (by omega)
    have vq : vp_in (nI (n * 20 + q)) 200 := vp_in_nI (by omega) (by decide)
    refine ux_G1 (r := 1) (go := 1) (rg := upd (upd rg (p * 4 + 3) 1) (p * 4 + a) (wo (n * 20 + q))) (po := upd po o (nI (q + 1))) (sp := upd sp p (sp p + 1)) (ex := ex + 1) (kd := kd) (ns := ns) (np := np) (wo := wo) (en := en) (st := st) (pp := pp) (pc := pc) (pg := pg) (pn := pn) (ds := ds) (fi := fi) (ow := ow) (pw := pw) (pl := pl) (qu := qu) (ou := ou) (qp := qp) (m := m) (c := c) (fun _ h => xj_15 H (fun Q hQ => ?_)) (fun _ h => yj_15 H (fun Q hQ => ?_)) (ux_J_mono (ux_J_po hJ (by omega)) (by omega)) hN (Or.inr ⟨rfl, hs⟩)
    · unfold wpX_read
      dsimp only
      rw [cb]
      refine ⟨vb, xa_ha hp hv (xa_pN (e := 4096) (by omega) (by omega) (by omega) (br_t (by decide) (xa_io1 (by omega) (by omega) (br_f (by decide) ?_))))⟩
      rw [es, co]
      refine ⟨vo, br_t how ?_⟩
      unfold wpX_readFile
      dsimp only
      rw [co, x3, c3, ca]
      refine ⟨vo, nm_r en' ⟨vo, nm_r eq ⟨vn, ?_⟩⟩⟩
      rw [cn, eg, x20, cq, eq, nI_1]
      exact br_t (nI_lt hlt (by omega)) ⟨v3, nm_e ⟨vq, va, nm_e ⟨vo, vo, nm_e (hQ _ (x634a hp hs (by decide) h))⟩⟩⟩
    · unfold wpY_read
      refine ya_eO hp hb hv ?_
      rw [ux_cvo o ho8]
      refine ya_inO (b := 101) (e := 102) (by omega) (by omega) (by omega) (br_t rfl (ya_inN (b := 1) (e := 8) (by omega) (by omega) (by omega) (br_f (by decide) ?_)))
      rw [es, co]
      refine ⟨vo, br_t how (nm_e ?_)⟩
      rw [co, en', cn, eq, eL]
      refine ⟨vo, vo, vn, br_t (nI_lt hlt (by omega)) (ya_done hp ?_)⟩
      dsimp only
      rw [en', eq, y20, cq, e4, ca, nI_1]
      exact ⟨vo, vo, vq, va, nm_e ⟨vo, vo, nm_e (hQ _ (y262a hp rfl (by decide) h))⟩⟩
  · refine ux_G1 (r := 1) (go := 1) (rg := upd rg (p * 4 + 3) 0) (sp := upd sp p (sp p + 1)) (ex := ex + 1) (kd := kd) (ns := ns) (np := np) (wo := wo) (en := en) (st := st) (pp := pp) (pc := pc) (pg := pg) (pn := pn) (ds := ds) (fi := fi) (ow := ow) (po := po) (pw := pw) (pl := pl) (qu := qu) (ou := ou) (qp := qp) (m := m) (c := c) (fun _ h => xj_15 H (fun Q hQ => ?_)) (fun _ h => yj_15 H (fun Q hQ => ?_)) (ux_J_mono hJ (by omega)) hN (Or.inr ⟨rfl, hs⟩)
    · unfold wpX_read
      dsimp only
      rw [cb]
      refine ⟨vb, xa_ha hp hv (xa_pN (e := 4096) (by omega) (by omega) (by omega) (br_t (by decide) (xa_io1 (by omega) (by omega) (br_f (by decide) ?_))))⟩
      rw [es, co]
      refine ⟨vo, br_t how ?_⟩
      unfold wpX_readFile
      dsimp only
      rw [co, x3, c3, ca]
      refine ⟨vo, nm_r en' ⟨vo, nm_r eq ⟨vn, ?_⟩⟩⟩
      rw [cn, eg]
      exact br_f (nI_nlt (by omega) (by omega)) ⟨v3, nm_e (hQ _ (x634a hp hs (by decide) h))⟩
    · unfold wpY_read
      refine ya_eO hp hb hv ?_
      rw [ux_cvo o ho8]
      refine ya_inO (b := 101) (e := 102) (by omega) (by omega) (by omega) (br_t rfl (ya_inN (b := 1) (e := 8) (by omega) (by omega) (by omega) (br_f (by decide) ?_)))
      rw [es, co]
      refine ⟨vo, br_t how (nm_e ?_)⟩
      rw [co, en', cn, eq, eL, y3, c3]
      exact ⟨vo, vo, vn, br_f (nI_nlt (by omega) (by omega)) ⟨v3, nm_e (hQ _ (y262a hp rfl (by decide) h))⟩⟩
/-- READ of a pipe -/
theorem op_15p (hJ : ux_J B kd ns np en ds fi ow po st pp qp pc pn pl qu m c) (hN : ux_N qu m p) (hs : st p = 1) (H : ux_in sp pn pg p s l a b 15) {k : Nat} (hk : k < 2) (hv : ux_hv ds p (rg (p * 4 + b)) (nI (4096 + k))) : ux_G (B + 1) p (nI m, nI c, ex + 1, kd, ns, np, wo, en, st, pp, sp, pc, pg, pn, rg, ds, fi, ow, po, pw, pl, qu, ou) ((nI m), ex, (nI c), go, kd, (ux_LN kd ns), wo, (ux_EN en), np, st, qp, sp, pn, pg, rg, (ux_ED ds), pc, fi, ow, po, pl, pw, qu, ou) := by
  obtain ⟨hF, hD, hO, hZ, hR, hU, hI, hL, hB⟩ := id hJ
  obtain ⟨hp, hi, ho, ha, ea, hb, eb⟩ := id H
  have cl : (nI p).toNatClampNeg = p := ux_c (by omega)
  have iv : vp_in (nI p) 5 := vp_in_nI hp (by decide)
  have ca : (nI (p * 4 + a)).toNatClampNeg = p * 4 + a := ux_c (by omega)
  have cb : (nI (p * 4 + b)).toNatClampNeg = p * 4 + b := ux_c (by omega)
  have c3 : (nI (p * 4 + 3)).toNatClampNeg = p * 4 + 3 := ux_c (by omega)
  have va : vp_in (nI (p * 4 + a)) 20 := vp_in_nI (by omega) (by decide)
  have vb : vp_in (nI (p * 4 + b)) 20 := vp_in_nI (by omega) (by decide)
  have v3 : vp_in (nI (p * 4 + 3)) 20 := vp_in_nI (by omega) (by decide)
  have e4 : 4 * nI p + nI a = nI (p * 4 + a) := by rw [ux_l_mul, nI_add, Nat.mul_comm]
  have f4 : 4 * nI p + nI b = nI (p * 4 + b) := by rw [ux_l_mul, nI_add, Nat.mul_comm]
  have x3 : nI p * 4 + 3 = nI (p * 4 + 3) := by rw [ux_mul_l, ux_add_l]
  have y3 : 4 * nI p + 3 = nI (p * 4 + 3) := by rw [ux_l_mul, ux_add_l, Nat.mul_comm]
  obtain ⟨g, hg, eg⟩ := hI k hk
  have ck : (nI k).toNatClampNeg = k := ux_c (by omega)
  have vk : vp_in (nI k) 2 := vp_in_nI hk (by decide)
  have es : nI (101 + k) - 101 = nI k := ux_s101 k
  have xk4 : nI k * 4 = nI (k * 4) := ux_mul_l k 4
  have yk4 : 4 * nI k = nI (k * 4) := by rw [ux_l_mul, Nat.mul_comm]
  have c4 : (nI (k * 4)).toNatClampNeg = k * 4 := ux_c (by omega)
  have v4 : vp_in (nI (k * 4)) 8 := vp_in_nI (by omega) (by decide)
  by_cases hz : g = 0
  · have e0 : pl k = 0 := by rw [eg, hz]; rfl
    refine ux_G1 (r := 1) (go := 1) (rg := upd rg (p * 4 + 3) 0) (sp := upd sp p (sp p + 1)) (ex := ex + 1) (kd := kd) (ns := ns) (np := np) (wo := wo) (en := en) (st := st) (pp := pp) (pc := pc) (pg := pg) (pn := pn) (ds := ds) (fi := fi) (ow := ow) (po := po) (pw := pw) (pl := pl) (qu := qu) (ou := ou) (qp := qp) (m := m) (c := c) (fun _ h => xj_15 H (fun Q hQ => ?_)) (fun _ h => yj_15 H (fun Q hQ => ?_)) (ux_J_mono hJ (by omega)) hN (Or.inr ⟨rfl, hs⟩)
    · unfold wpX_read
      dsimp only
      rw [cb]
      refine ⟨vb, xa_ha hp hv (xa_pY (e := 4096) hk (by omega) (br_f (nI_pos (by omega)) ?_))⟩
      unfold wpX_readPipe
      dsimp only
      rw [ck, x3, c3]
      exact ⟨vk, br_t e0 ⟨v3, nm_e (hQ _ (x634a hp hs (by decide) h))⟩⟩
    · unfold wpY_read
      refine ya_eO hp hb hv ?_
      rw [ux_cvr k hk]
      refine ya_inN (b := 101) (e := 102) (by omega) (by omega) (by omega) (br_f (by decide) ?_)
      rw [es]
      unfold wpY_readPipe
      dsimp only
      rw [ck, y3, c3]
      exact ⟨vk, br_t e0 ⟨v3, nm_e (hQ _ (y262a hp rfl (by decide) h))⟩⟩
  · have e0 : pl k ≠ 0 := by rw [eg]; exact ux_nz (by omega) (by omega)
    refine ux_G1 (r := 1) (go := 1) (rg := upd (upd rg (p * 4 + 3) 1) (p * 4 + a) (pw (k * 4))) (pw := ux_sr pw k 3) (pl := upd pl k (pl k - 1)) (sp := upd sp p (sp p + 1)) (ex := ex + 1) (kd := kd) (ns := ns) (np := np) (wo := wo) (en := en) (st := st) (pp := pp) (pc := pc) (pg := pg) (pn := pn) (ds := ds) (fi := fi) (ow := ow) (po := po) (qu := qu) (ou := ou) (qp := qp) (m := m) (c := c) (fun _ h => xj_15 H (fun Q hQ => ?_)) (fun _ h => yj_15 H (fun Q hQ => ?_)) ?_ hN (Or.inr ⟨rfl, hs⟩)
    · unfold wpX_read
      dsimp only
      rw [cb]
      refine ⟨vb, xa_ha hp hv (xa_pY (e := 4096) hk (by omega) (br_f (nI_pos (by omega)) ?_))⟩
      unfold wpX_readPipe
      dsimp only
      rw [ck, x3, c3, xk4, c4, ca]
      exact ⟨vk, br_f e0 ⟨v3, nm_e ⟨v4, va, nm_e ⟨4, xs_rp hk (hQ _ (x634a hp hs (by decide) h)) 3 0 (by omega)⟩⟩⟩⟩
    · unfold wpY_read
      refine ya_eO hp hb hv ?_
      rw [ux_cvr k hk]
      refine ya_inN (b := 101) (e := 102) (by omega) (by omega) (by omega) (br_f (by decide) ?_)
      rw [es]
      unfold wpY_readPipe
      dsimp only
      rw [ck]
      refine ⟨vk, br_f e0 (ya_done hp ?_)⟩
      rw [yk4, c4, e4, ca]
      exact ⟨v4, va, nm_e (nm_r (e' := nI (k * 4 + 0)) rfl ⟨4, ys_rp hk (hQ _ (y262a hp rfl (by decide) h)) 3 0 (by omega)⟩)⟩
    · rw [eg, ux_m1p (by omega)]
      exact ux_J_mono (ux_J_pl hJ (by omega)) (by omega)
theorem op_15 (hJ : ux_J B kd ns np en ds fi ow po st pp qp pc pn pl qu m c) (hN : ux_N qu m p) (hs : st p = 1) (H : ux_in sp pn pg p s l a b 15) : ux_G (B + 1) p (nI m, nI c, ex + 1, kd, ns, np, wo, en, st, pp, sp, pc, pg, pn, rg, ds, fi, ow, po, pw, pl, qu, ou) ((nI m), ex, (nI c), go, kd, (ux_LN kd ns), wo, (ux_EN en), np, st, qp, sp, pn, pg, rg, (ux_ED ds), pc, fi, ow, po, pl, pw, qu, ou) := by
  obtain ⟨hF, hD, hO, hZ, hR, hU, hI, hL, hB⟩ := id hJ
  obtain ⟨w, hv, hV⟩ := ux_hvE hD H.1 (rg (p * 4 + b))
  have hx : ∀ o, o < 8 → w = nI (1 + o) → ∃ d, d < 20 ∧ ds d = nI (1 + o) := by
    intro o ho e
    rcases id hv with ⟨d, hd, _, e2⟩ | ⟨_, e2⟩
    · exact ⟨p * 4 + d, by have := H.1; omega, by rw [← e2]; exact e⟩
    · rw [e2] at e; exact absurd e.symm (ux_nz (by omega) (by omega))
  rcases id hV with h | ⟨o, ho, h⟩ | ⟨k, hk, h⟩ | ⟨k, hk, h⟩
  · exact op_15f hJ hN hs H hv (Or.inl ⟨0, h, by omega, by omega, by omega, 0, by rw [h, ux_cv0]; rfl, by omega, by omega, by omega⟩)
  · obtain ⟨d, hd, e⟩ := hx o ho h
    obtain ⟨⟨n, n0, n1, n2, n3⟩, how, q, hq, eq⟩ := hO d o hd ho e
    obtain ⟨g, hg, eg⟩ := (hF.2.2.2.2 n n1).2 n3
    by_cases h0 : ow o = 0
    · subst h
      exact op_15o hJ hN hs H ho hv h0 n1 n2 n3 hq eq hg eg
    · exact op_15f hJ hN hs H hv (Or.inr ⟨o, ho, h, h0⟩)
  · subst h
    exact op_15p hJ hN hs H hk hv
  · exact op_15f hJ hN hs H hv (Or.inl ⟨8192 + k, h, by omega, by omega, by omega, 201 + k, by rw [h, ux_cvw k hk], by omega, by omega, by omega⟩)
/-- SEEK -/
theorem op_19f (hJ : ux_J B kd ns np en ds fi ow po st pp qp pc pn pl qu m c) (hN : ux_N qu m p) (hs : st p = 1) (H : ux_in sp pn pg p s l a b 19) {w : Int32} (hv : ux_hv ds p (rg (p * 4 + b)) w)
    (hw : (∃ t, w = nI t ∧ (t < 1 ∨ 9 ≤ t) ∧ t < 100000 ∧ ∃ t2, ux_cv w = nI t2 ∧ (t2 < 1 ∨ 8 < t2) ∧ t2 < 100000) ∨ (∃ o n g, o < 8 ∧ w = nI (1 + o) ∧ n < 10 ∧ fi o = nI n ∧ kd n = 1 ∧ g ≤ 20 ∧ ns n = nI g ∧ (rg (p * 4 + a) < 0 ∨ (¬ rg (p * 4 + a) < 0 ∧ nI (g + 1) ≤ rg (p * 4 + a))))) : ux_G (B + 1) p (nI m, nI c, ex + 1, kd, ns, np, wo, en, st, pp, sp, pc, pg, pn, rg, ds, fi, ow, po, pw, pl, qu, ou) ((nI m), ex, (nI c), go, kd, (ux_LN kd ns), wo, (ux_EN en), np, st, qp, sp, pn, pg, rg, (ux_ED ds), pc, fi, ow, po, pl, pw, qu, ou) := by
  obtain ⟨hF, hD, hO, hZ, hR, hU, hI, hL, hB⟩ := id hJ
  obtain ⟨hp, hi, ho, ha, ea, hb, eb⟩ := id H
  have cl : (nI p).toNatClampNeg = p := ux_c (by omega)
  have iv : vp_in (nI p) 5 := vp_in_nI hp (by decide)
  have ca : (nI (p * 4 + a)).toNatClampNeg = p * 4 + a := ux_c (by omega)
  have cb : (nI (p * 4 + b)).toNatClampNeg = p * 4 + b := ux_c (by omega)
  have c3 : (nI (p * 4 + 3)).toNatClampNeg = p * 4 + 3 := ux_c (by omega)
  have va : vp_in (nI (p * 4 + a)) 20 := vp_in_nI (by omega) (by decide)
  have vb : vp_in (nI (p * 4 + b)) 20 := vp_in_nI (by omega) (by decide)
  have v3 : vp_in (nI (p * 4 + 3)) 20 := vp_in_nI (by omega) (by decide)
  have e4 : 4 * nI p + nI a = nI (p * 4 + a) := by rw [ux_l_mul, nI_add, Nat.mul_comm]
  have f4 : 4 * nI p + nI b = nI (p * 4 + b) := by rw [ux_l_mul, nI_add, Nat.mul_comm]
  have x3 : nI p * 4 + 3 = nI (p * 4 + 3) := by rw [ux_mul_l, ux_add_l]
  have y3 : 4 * nI p + 3 = nI (p * 4 + 3) := by rw [ux_l_mul, ux_add_l, Nat.mul_comm]
  refine ux_G1 (r := 1) (go := 1) (rg := upd rg (p * 4 + 3) (-1)) (sp := upd sp p (sp p + 1)) (ex := ex + 1) (kd := kd) (ns := ns) (np := np) (wo := wo) (en := en) (st := st) (pp := pp) (pc := pc) (pg := pg) (pn := pn) (ds := ds) (fi := fi) (ow := ow) (po := po) (pw := pw) (pl := pl) (qu := qu) (ou := ou) (qp := qp) (m := m) (c := c) (fun _ h => xj_19 H (fun Q hQ => ?_)) (fun _ h => yj_19 H (fun Q hQ => ?_)) (ux_J_mono hJ (by omega)) hN (Or.inr ⟨rfl, hs⟩)
  · have hX := hQ (-1) (nI m, nI c, ex + 1, kd, ns, np, wo, en, st, pp, upd sp p (sp p + 1), pc, pg, pn, rg, ds, fi, ow, po, pw, pl, qu, ou) (x634a hp hs (by decide) h)
    unfold wpX_seek
    refine xa_ha hp hv ?_
    rcases hw with ⟨t, e1, h1, h2, _⟩ | ⟨o, n, g, ho8, e1, hn, en', hk, hg, eg, hr⟩
    · rw [e1]
      exact xa_io0 h1 h2 (br_t rfl hX)
    · rw [e1]
      refine xa_io1 (by omega) (by omega) (br_f (by decide) (nm_r (e' := nI o) (ux_so o) ?_))
      rcases hr with hr | ⟨hr, hr2⟩
      · exact br_t hr hX
      · refine br_f hr ⟨vp_in_nI ho8 (by decide), ?_⟩
        rw [ux_c (n := o) (by omega), en', ux_c (n := n) (by omega), eg]
        exact ⟨vp_in_nI hn (by decide), br_f (ux_hi1 (by omega) hr2) hX⟩
  · have hX : wY_seek_59 Q (nI p) (nI m) (ex + 1) (nI c) 1 kd (ux_LN kd ns) wo (ux_EN en) np st qp sp pn pg rg (ux_ED ds) pc fi ow po pl pw qu ou := ya_fail hp (hQ _ (y262a hp rfl (by decide) h))
    unfold wpY_seek
    refine ya_eO hp hb hv ?_
    rw [e4, ca]
    refine ⟨va, nm_e ?_⟩
    rcases hw with ⟨t, _, _, _, t2, e1, h1, h2⟩ | ⟨o, n, g, ho8, e1, hn, en', hk, hg, eg, hr⟩
    · rw [e1]
      exact ya_inO (b := 1) (e := 8) h1 h2 (by omega) (br_t rfl hX)
    · rw [e1, ux_cvo o ho8]
      refine ya_inN (b := 1) (e := 8) (by omega) (by omega) (by omega) (br_f (by decide) ?_)
      rw [ux_so o, ux_k7 o ho8, ux_c (n := o) (by omega), en', ux_c (n := n) (by omega), ux_LN_f (by rw [hk]; exact ux_n12), eg]
      exact ⟨vp_in_nI ho8 (by decide), vp_in_nI hn (by decide), ya_inR g (by omega) hr (br_t rfl hX)⟩
theorem op_19 (hJ : ux_J B kd ns np en ds fi ow po st pp qp pc pn pl qu m c) (hN : ux_N qu m p) (hs : st p = 1) (H : ux_in sp pn pg p s l a b 19) : ux_G (B + 1) p (nI m, nI c, ex + 1, kd, ns, np, wo, en, st, pp, sp, pc, pg, pn, rg, ds, fi, ow, po, pw, pl, qu, ou) ((nI m), ex, (nI c), go, kd, (ux_LN kd ns), wo, (ux_EN en), np, st, qp, sp, pn, pg, rg, (ux_ED ds), pc, fi, ow, po, pl, pw, qu, ou) := by
  obtain ⟨hF, hD, hO, hZ, hR, hU, hI, hL, hB⟩ := id hJ
  obtain ⟨hp, hi, ho, ha, ea, hb, eb⟩ := id H
  have cl : (nI p).toNatClampNeg = p := ux_c (by omega)
  have iv : vp_in (nI p) 5 := vp_in_nI hp (by decide)
  have ca : (nI (p * 4 + a)).toNatClampNeg = p * 4 + a := ux_c (by omega)
  have cb : (nI (p * 4 + b)).toNatClampNeg = p * 4 + b := ux_c (by omega)
  have c3 : (nI (p * 4 + 3)).toNatClampNeg = p * 4 + 3 := ux_c (by omega)
  have va : vp_in (nI (p * 4 + a)) 20 := vp_in_nI (by omega) (by decide)
  have vb : vp_in (nI (p * 4 + b)) 20 := vp_in_nI (by omega) (by decide)
  have v3 : vp_in (nI (p * 4 + 3)) 20 := vp_in_nI (by omega) (by decide)
  have e4 : 4 * nI p + nI a = nI (p * 4 + a) := by rw [ux_l_mul, nI_add, Nat.mul_comm]
  have f4 : 4 * nI p + nI b = nI (p * 4 + b) := by rw [ux_l_mul, nI_add, Nat.mul_comm]
  have x3 : nI p * 4 + 3 = nI (p * 4 + 3) := by rw [ux_mul_l, ux_add_l]
  have y3 : 4 * nI p + 3 = nI (p * 4 + 3) := by rw [ux_l_mul, ux_add_l, Nat.mul_comm]
  obtain ⟨w, hv, hV⟩ := ux_hvE hD hp (rg (p * 4 + b))
  rcases id hV with h | ⟨o, ho8, h⟩ | ⟨k, hk, h⟩ | ⟨k, hk, h⟩
  · exact op_19f hJ hN hs H hv (Or.inl ⟨0, h, by omega, by omega, 0, by rw [h, ux_cv0]; rfl, by omega, by omega⟩)
  · have hx : ∃ d, d < 20 ∧ ds d = nI (1 + o) := by
      rcases id hv with ⟨d, hd, _, e2⟩ | ⟨_, e2⟩
      · exact ⟨p * 4 + d, by omega, by rw [← e2]; exact h⟩
      · rw [e2] at h; exact absurd h.symm (ux_nz (by omega) (by omega))
    obtain ⟨d, hd, e⟩ := hx
    obtain ⟨⟨n, n0, n1, n2, n3⟩, _, _⟩ := hO d o hd ho8 e
    obtain ⟨g, hg, eg⟩ := (hF.2.2.2.2 n n1).2 n3
    rcases ux_rg (rg (p * 4 + a)) (g + 1) (by omega) with ⟨t, ht, et⟩ | hr
    · subst h
      have es : nI (1 + o) - 1 = nI o := ux_so o
      have co : (nI o).toNatClampNeg = o := ux_c (by omega)
      have vo : vp_in (nI o) 8 := vp_in_nI ho8 (by decide)
      have cn : (nI n).toNatClampNeg = n := ux_c (by omega)
      have vn : vp_in (nI n) 10 := vp_in_nI n1 (by decide)
      refine ux_G1 (r := 1) (go := 1) (rg := upd rg (p * 4 + 3) 1) (po := upd po o (nI t)) (sp := upd sp p (sp p + 1)) (ex := ex + 1) (kd := kd) (ns := ns) (np := np) (wo := wo) (en := en) (st := st) (pp := pp) (pc := pc) (pg := pg) (pn := pn) (ds := ds) (fi := fi) (ow := ow) (pw := pw) (pl := pl) (qu := qu) (ou := ou) (qp := qp) (m := m) (c := c) (fun _ h => xj_19 H (fun Q hQ => ?_)) (fun _ h => yj_19 H (fun Q hQ => ?_)) (ux_J_mono (ux_J_po hJ (by omega)) (by omega)) hN (Or.inr ⟨rfl, hs⟩)
      · unfold wpX_seek
        refine xa_ha hp hv (xa_io1 (by omega) (by omega) (br_f (by decide) (nm_r es ?_)))
        rw [et, co, n2, cn, eg]
        exact br_f (nI_pos (by omega)) ⟨vo, vn, br_t (nI_le (by omega) (by omega)) ⟨vo, nm_e (hQ _ _ (x634a hp hs (by decide) h))⟩⟩
      · unfold wpY_seek
        refine ya_eO hp hb hv ?_
        rw [ux_cvo o ho8, e4, ca, et, es, ux_k7 o ho8, co, n2, cn, ux_LN_f (by rw [n3]; exact ux_n12), eg]
        exact ⟨va, nm_e (ya_inN (b := 1) (e := 8) (by omega) (by omega) (by omega) (br_f (by decide) ⟨vo, vn, ya_inN (b := 0) (e := g) (by omega) (by omega) (by omega) (br_f (by decide) ⟨vo, nm_e (ya_done hp (hQ _ (y262a hp rfl (by decide) h)))⟩)⟩))⟩
    · exact op_19f hJ hN hs H hv (Or.inr ⟨o, n, g, ho8, h, n1, n2, n3, hg, eg, hr⟩)
  · exact op_19f hJ hN hs H hv (Or.inl ⟨4096 + k, h, by omega, by omega, 101 + k, by rw [h, ux_cvr k hk], by omega, by omega⟩)
  · exact op_19f hJ hN hs H hv (Or.inl ⟨8192 + k, h, by omega, by omega, 201 + k, by rw [h, ux_cvw k hk], by omega, by omega⟩)
end UX19
