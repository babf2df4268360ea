section UX25
variable {ql pr : Int32} {ex : Int64} {kd ns np wo en st pp sp pc pg pn rg ds fi ow po pw pl qu ou : Nat → Int32}
variable {qp : Nat → Int32} {go : Int32} {B p s l a b m c : Nat}
/-- LINK fails -/
theorem op_22f (hJ : ux_J B kd ns np en ds fi ow po st pp qp pc pn pl qu m c) (hN : ux_N qu m p) (hs : st p = 1) (H : ux_in sp pn pg p s l a b 22) {d : Nat} (hd : d < 10) (ed : pc p = nI d) (hd2 : kd d = 2)
    (hw : ux_no en d (rg (p * 4 + a)) ∨ ∃ q n, ux_ye en d (rg (p * 4 + a)) q n ∧ (kd n ≠ 1 ∨ (kd n = 1 ∧ ((rg (p * 4 + b) < 0 ∨ (¬ rg (p * 4 + b) < 0 ∧ nI 15 ≤ rg (p * 4 + b))) ∨ (∃ e, e < 15 ∧ rg (p * 4 + b) = nI e ∧ (en (d * 15 + e) ≠ 0 ∨ (en (d * 15 + e) = 0 ∧ ux_cn en d = 6))))))) : ux_G (B + 1) p (nI m, nI c, ex + 1, kd, ns, np, wo, en, st, pp, sp, pc, pg, pn, rg, ds, fi, ow, po, pw, pl, qu, ou) ((nI m), ex, (nI c), go, kd, (ux_LN kd ns), wo, (ux_EN en), np, st, qp, sp, pn, pg, rg, (ux_ED ds), pc, fi, ow, po, pl, pw, qu, ou) := by
  obtain ⟨hF, hD, hO, hZ, hR, hU, hI, hL, hB⟩ := id hJ
  obtain ⟨hp, hi, ho, ha, ea, hb, eb⟩ := id H
  have cl : (nI p).toNatClampNeg = p := ux_c (by omega)
  have iv : vp_in (nI p) 5 := vp_in_nI hp (by decide)
  have ca : (nI (p * 4 + a)).toNatClampNeg = p * 4 + a := ux_c (by omega)
  have cb : (nI (p * 4 + b)).toNatClampNeg = p * 4 + b := ux_c (by omega)
  have c3 : (nI (p * 4 + 3)).toNatClampNeg = p * 4 + 3 := ux_c (by omega)
  have va : vp_in (nI (p * 4 + a)) 20 := vp_in_nI (by omega) (by decide)
  have vb : vp_in (nI (p * 4 + b)) 20 := vp_in_nI (by omega) (by decide)
  have v3 : vp_in (nI (p * 4 + 3)) 20 := vp_in_nI (by omega) (by decide)
  have e4 : 4 * nI p + nI a = nI (p * 4 + a) := by rw [ux_l_mul, nI_add, Nat.mul_comm]
  have f4 : 4 * nI p + nI b = nI (p * 4 + b) := by rw [ux_l_mul, nI_add, Nat.mul_comm]
  have x3 : nI p * 4 + 3 = nI (p * 4 + 3) := by rw [ux_mul_l, ux_add_l]
  have y3 : 4 * nI p + 3 = nI (p * 4 + 3) := by rw [ux_l_mul, ux_add_l, Nat.mul_comm]
  have eS := ((hF.2.2.2.2 d hd).1 hd2).1
  have h6 := ((hF.2.2.2.2 d hd).1 hd2).2
  refine ux_G1 (r := 1) (go := 1) (rg := upd rg (p * 4 + 3) (-1)) (sp := upd sp p (sp p + 1)) (ex := ex + 1) (kd := kd) (ns := ns) (np := np) (wo := wo) (en := en) (st := st) (pp := pp) (pc := pc) (pg := pg) (pn := pn) (ds := ds) (fi := fi) (ow := ow) (po := po) (pw := pw) (pl := pl) (qu := qu) (ou := ou) (qp := qp) (m := m) (c := c) (fun _ h => xj_22 H (fun Q hQ => ?_)) (fun _ h => yj_22 H (fun Q hQ => ?_)) (ux_J_mono hJ (by omega)) hN (Or.inr ⟨rfl, hs⟩)
  · have hX := hQ (-1) (nI m, nI c, ex + 1, kd, ns, np, wo, en, st, pp, upd sp p (sp p + 1), pc, pg, pn, rg, ds, fi, ow, po, pw, pl, qu, ou) (x634a hp hs (by decide) h)
    unfold wpX_link
    dsimp only
    rw [cl, ed]
    refine ⟨iv, ?_⟩
    rcases hw with hno | ⟨q, n, hye, h1 | ⟨h1, h2⟩⟩
    · exact xa_fnN hd hno hF.1.1 (br_t rfl hX)
    · exact xa_fnD hd hye h1 (br_t rfl hX)
    · have hn := hye.2.2.2.1
      refine xa_fnY hd hye h1 (br_f (ux_nz hye.2.2.1 (by omega)) ⟨iv, xa_ce0 hd ?_ (br_t rfl hX)⟩)
      rcases h2 with h2 | ⟨e, he, e1, e2⟩
      · exact Or.inl h2
      · refine Or.inr ⟨e, he, e1, ?_⟩
        by_cases z : ux_cn en d < 6
        · rcases e2 with e2 | ⟨_, e2⟩
          · exact Or.inr ⟨⟨_, z, eS⟩, e2⟩
          · omega
        · exact Or.inl ⟨_, by omega, by omega, eS⟩
  · have hX : wY_link_92 Q (nI p) (nI m) (ex + 1) (nI c) 1 kd (ux_LN kd ns) wo (ux_EN en) np st qp sp pn pg rg (ux_ED ds) pc fi ow po pl pw qu ou := ya_fail hp (hQ _ (y262a hp rfl (by decide) h))
    unfold wpY_link
    dsimp only
    rw [e4, f4, ca, cb, cl, ed]
    refine ⟨iv, va, ?_⟩
    rcases hw with hno | ⟨q, n, hye, hw⟩
    · exact ya_nmN hd hno ⟨vb, nm_e (br_t (by decide) hX)⟩
    · have hn := hye.2.2.2.1
      have cn : (nI n).toNatClampNeg = n := ux_c (by omega)
      refine ya_nmY hd hye ⟨vb, nm_e (br_f (nI_pos (by omega)) ⟨vp_in_nI hn (by decide), ?_⟩)⟩
      rw [cn]
      rcases hw with h1 | ⟨h1, h2⟩
      · exact br_f h1 hX
      · refine br_t h1 ?_
        rcases h2 with h2 | ⟨e, he, e1, e2⟩
        · exact ya_inR 14 (by omega) h2 (br_t rfl hX)
        · have ee : ux_EN en (15 * d + e) = ux_EN en (d * 15 + e) := by rw [Nat.mul_comm]
          rw [e1]
          refine ya_inN (b := 0) (e := 14) (by omega) (by omega) (by omega) (br_f (by decide) ⟨iv, ya_nmA hd he ?_⟩)
          rw [ee]
          rcases e2 with e2 | ⟨e2, e3⟩
          · exact br_t ((ux_EN_ge hF.2.1 (by omega)).mpr e2) hX
          · rw [ux_EN_0 (by omega) e2]
            refine br_f (by decide) ⟨iv, ya_eo hF.2.1 hd (br_t ?_ hX)⟩
            rw [e3]; rfl
theorem op_22 (hJ : ux_J B kd ns np en ds fi ow po st pp qp pc pn pl qu m c) (hN : ux_N qu m p) (hs : st p = 1) (H : ux_in sp pn pg p s l a b 22) : ux_G (B + 1) p (nI m, nI c, ex + 1, kd, ns, np, wo, en, st, pp, sp, pc, pg, pn, rg, ds, fi, ow, po, pw, pl, qu, ou) ((nI m), ex, (nI c), go, kd, (ux_LN kd ns), wo, (ux_EN en), np, st, qp, sp, pn, pg, rg, (ux_ED ds), pc, fi, ow, po, pl, pw, qu, ou) := by
  obtain ⟨hF, hD, hO, hZ, hR, hU, hI, hL, hB⟩ := id hJ
  obtain ⟨hp, hi, ho, ha, ea, hb, eb⟩ := id H
  have cl : (nI p).toNatClampNeg = p := ux_c (by omega)
  have iv : vp_in (nI p) 5 := vp_in_nI hp (by decide)
  have ca : (nI (p * 4 + a)).toNatClampNeg = p * 4 + a := ux_c (by omega)
  have cb : (nI (p * 4 + b)).toNatClampNeg = p * 4 + b := ux_c (by omega)
  have c3 : (nI (p * 4 + 3)).toNatClampNeg = p * 4 + 3 := ux_c (by omega)
  have va : vp_in (nI (p * 4 + a)) 20 := vp_in_nI (by omega) (by decide)
  have vb : vp_in (nI (p * 4 + b)) 20 := vp_in_nI (by omega) (by decide)
  have v3 : vp_in (nI (p * 4 + 3)) 20 := vp_in_nI (by omega) (by decide)
  have e4 : 4 * nI p + nI a = nI (p * 4 + a) := by rw [ux_l_mul, nI_add, Nat.mul_comm]
  have f4 : 4 * nI p + nI b = nI (p * 4 + b) := by rw [ux_l_mul, nI_add, Nat.mul_comm]
  have x3 : nI p * 4 + 3 = nI (p * 4 + 3) := by rw [ux_mul_l, ux_add_l]
  have y3 : 4 * nI p + 3 = nI (p * 4 + 3) := by rw [ux_l_mul, ux_add_l, Nat.mul_comm]
  obtain ⟨⟨d, hd, ed, hd2⟩, _⟩ := (hR p hp).2.2 (Or.inl hs)
  have eS := ((hF.2.2.2.2 d hd).1 hd2).1
  have h6 := ((hF.2.2.2.2 d hd).1 hd2).2
  rcases ux_noye hF.2.1 hd (rg (p * 4 + a)) with hno | ⟨q, n, hye, hk0, _⟩
  · exact op_22f hJ hN hs H hd ed hd2 (Or.inl hno)
  · by_cases h1 : kd n = 1
    · rcases ux_rg (rg (p * 4 + b)) 15 (by decide) with ⟨e, he, e1⟩ | hr
      · by_cases h0 : en (d * 15 + e) = 0
        · by_cases hc : ux_cn en d < 6
          · have hn := hye.2.2.2.1
            have hn0 := hye.2.2.1
            have cn : (nI n).toNatClampNeg = n := ux_c (by omega)
            have vn : vp_in (nI n) 10 := vp_in_nI hn (by decide)
            have y15 : 15 * nI d + nI e = nI (d * 15 + e) := by rw [ux_l_mul, nI_add, Nat.mul_comm]
            refine ux_G1 (r := 1) (go := 1) (ns := upd ns d (ns d + 1)) (en := upd en (d * 15 + e) (nI n)) (rg := upd rg (p * 4 + 3) 1) (sp := upd sp p (sp p + 1)) (ex := ex + 1) (kd := kd) (np := np) (wo := wo) (st := st) (pp := pp) (pc := pc) (pg := pg) (pn := pn) (ds := ds) (fi := fi) (ow := ow) (po := po) (pw := pw) (pl := pl) (qu := qu) (ou := ou) (qp := qp) (m := m) (c := c) (fun _ h => xj_22 H (fun Q hQ => ?_)) (fun _ h => yj_22 H (fun Q hQ => ?_)) (ux_J_mono (ux_J_link hJ hn0 hn h1 hd hd2 he h0 hc) (by omega)) hN (Or.inr ⟨rfl, hs⟩)
            · unfold wpX_link
              dsimp only
              rw [cl, ed]
              refine ⟨iv, xa_fnY hd hye h1 (br_f (ux_nz hn0 (by omega)) ⟨iv, xa_ce1 hd ⟨he, e1, eS, hc, h0⟩ (br_f (by decide) ⟨iv, ?_⟩)⟩)⟩
              rw [e1]
              exact xa_et hd he (hQ _ _ (x634a hp hs (by decide) h))
            · rw [ux_LN_d hd2, ux_EN_u1 (by omega) (ux_nz hn0 (by omega))] at h
              unfold wpY_link
              dsimp only
              rw [e4, f4, ca, cb, cl, ed]
              refine ⟨iv, va, ya_nmY hd hye ⟨vb, nm_e (br_f (nI_pos (by omega)) ⟨vn, br_t (by rw [cn]; exact h1) ?_⟩)⟩⟩
              rw [e1]
              refine ya_inN (b := 0) (e := 14) (by omega) (by omega) (by omega) (br_f (by decide) ⟨iv, ya_nmA hd he ?_⟩)
              rw [Nat.mul_comm 15 d, ux_EN_0 (by omega) h0, y15, ux_c (n := d * 15 + e) (by omega)]
              exact br_f (by decide) ⟨iv, ya_eo hF.2.1 hd (br_f (ux_ne (b := 6) (by omega) (by omega) (by omega)) ⟨iv, vp_in_nI (by omega) (by decide), nm_e (ya_done hp (hQ _ (y262a hp rfl (by decide) h)))⟩)⟩
          · exact op_22f hJ hN hs H hd ed hd2 (Or.inr ⟨q, n, hye, Or.inr ⟨h1, Or.inr ⟨e, he, e1, Or.inr ⟨h0, by omega⟩⟩⟩⟩)
        · exact op_22f hJ hN hs H hd ed hd2 (Or.inr ⟨q, n, hye, Or.inr ⟨h1, Or.inr ⟨e, he, e1, Or.inl h0⟩⟩⟩)
      · exact op_22f hJ hN hs H hd ed hd2 (Or.inr ⟨q, n, hye, Or.inr ⟨h1, Or.inl hr⟩⟩)
    · exact op_22f hJ hN hs H hd ed hd2 (Or.inr ⟨q, n, hye, Or.inl h1⟩)
/-- REMOVE fails -/
theorem op_23f (hJ : ux_J B kd ns np en ds fi ow po st pp qp pc pn pl qu m c) (hN : ux_N qu m p) (hs : st p = 1) (H : ux_in sp pn pg p s l a b 23) {d : Nat} (hd : d < 10) (ed : pc p = nI d)
    (hw : ux_no en d (rg (p * 4 + a)) ∨ ∃ q n, ux_ye en d (rg (p * 4 + a)) q n ∧ kd n = 2 ∧ (0 < ux_cn en n ∨ (ux_cn en n = 0 ∧ ∃ j, j < 5 ∧ (st j = 1 ∨ st j = 2) ∧ pc j = nI n))) : ux_G (B + 1) p (nI m, nI c, ex + 1, kd, ns, np, wo, en, st, pp, sp, pc, pg, pn, rg, ds, fi, ow, po, pw, pl, qu, ou) ((nI m), ex, (nI c), go, kd, (ux_LN kd ns), wo, (ux_EN en), np, st, qp, sp, pn, pg, rg, (ux_ED ds), pc, fi, ow, po, pl, pw, qu, ou) := by
  obtain ⟨hF, hD, hO, hZ, hR, hU, hI, hL, hB⟩ := id hJ
  obtain ⟨hp, hi, ho, ha, ea, hb, eb⟩ := id H
  have cl : (nI p).toNatClampNeg = p := ux_c (by omega)
  have iv : vp_in (nI p) 5 := vp_in_nI hp (by decide)
  have ca : (nI (p * 4 + a)).toNatClampNeg = p * 4 + a := ux_c (by omega)
  have cb : (nI (p * 4 + b)).toNatClampNeg = p * 4 + b := ux_c (by omega)
  have c3 : (nI (p * 4 + 3)).toNatClampNeg = p * 4 + 3 := ux_c (by omega)
  have va : vp_in (nI (p * 4 + a)) 20 := vp_in_nI (by omega) (by decide)
  have vb : vp_in (nI (p * 4 + b)) 20 := vp_in_nI (by omega) (by decide)
  have v3 : vp_in (nI (p * 4 + 3)) 20 := vp_in_nI (by omega) (by decide)
  have e4 : 4 * nI p + nI a = nI (p * 4 + a) := by rw [ux_l_mul, nI_add, Nat.mul_comm]
  have f4 : 4 * nI p + nI b = nI (p * 4 + b) := by rw [ux_l_mul, nI_add, Nat.mul_comm]
  have x3 : nI p * 4 + 3 = nI (p * 4 + 3) := by rw [ux_mul_l, ux_add_l]
  have y3 : 4 * nI p + 3 = nI (p * 4 + 3) := by rw [ux_l_mul, ux_add_l, Nat.mul_comm]
  refine ux_G1 (r := 1) (go := 1) (rg := upd rg (p * 4 + 3) (-1)) (sp := upd sp p (sp p + 1)) (ex := ex + 1) (kd := kd) (ns := ns) (np := np) (wo := wo) (en := en) (st := st) (pp := pp) (pc := pc) (pg := pg) (pn := pn) (ds := ds) (fi := fi) (ow := ow) (po := po) (pw := pw) (pl := pl) (qu := qu) (ou := ou) (qp := qp) (m := m) (c := c) (fun _ h => xj_23 H (fun Q hQ => ?_)) (fun _ h => yj_23 H (fun Q hQ => ?_)) (ux_J_mono hJ (by omega)) hN (Or.inr ⟨rfl, hs⟩)
  · have hX := hQ (-1) (nI m, nI c, ex + 1, kd, ns, np, wo, en, st, pp, upd sp p (sp p + 1), pc, pg, pn, rg, ds, fi, ow, po, pw, pl, qu, ou) (x634a hp hs (by decide) h)
    unfold wpX_remove
    dsimp only
    rw [cl, ed]
    refine ⟨iv, ?_⟩
    rcases hw with hno | ⟨q, n, hye, h2, hb2⟩
    · exact xa_nnN hd hno (br_t rfl hX)
    · have hn := hye.2.2.2.1
      have vn : vp_in (nI n) 10 := vp_in_nI hn (by decide)
      have eS := ((hF.2.2.2.2 n hn).1 h2).1
      have h6 := ((hF.2.2.2.2 n hn).1 h2).2
      refine xa_nnY hd hye (br_f (ux_nz hye.2.2.1 (by omega)) ⟨vn, ?_⟩)
      rw [ux_c (n := n) (by omega), eS]
      refine br_t h2 ⟨vn, ?_⟩
      rcases hb2 with z | ⟨z, z2⟩
      · exact br_t (nI_lt (a := 0) z (by omega)) hX
      · exact br_f (by rw [z]; decide) (xa_pl1 z2 (br_f (by decide) hX))
  · have hX : wY_remove_58 Q (nI p) (nI m) (ex + 1) (nI c) 1 kd (ux_LN kd ns) wo (ux_EN en) np st qp sp pn pg rg (ux_ED ds) pc fi ow po pl pw qu ou := ya_fail hp (hQ _ (y262a hp rfl (by decide) h))
    unfold wpY_remove
    dsimp only
    rw [e4, ca, cl, ed]
    refine ⟨va, nm_e ⟨iv, ?_⟩⟩
    rcases hw with hno | ⟨q, n, hye, h2, hb2⟩
    · exact ya_nmN hd hno (br_t (by decide) hX)
    · have hn := hye.2.2.2.1
      have vn : vp_in (nI n) 10 := vp_in_nI hn (by decide)
      have h6 := ((hF.2.2.2.2 n hn).1 h2).2
      refine ya_nmY hd hye (br_f (nI_pos (by omega)) ⟨vn, br_t (by rw [ux_c (by omega)]; exact h2) (ya_eo hF.2.1 hn ?_)⟩)
      rcases hb2 with z | ⟨z, z2⟩
      · exact br_t (nI_lt (a := 0) z (by omega)) hX
      · exact br_f (by rw [z]; decide) (ya_pl1 z2 (br_f (by decide) hX))
theorem op_23 (hJ : ux_J B kd ns np en ds fi ow po st pp qp pc pn pl qu m c) (hN : ux_N qu m p) (hs : st p = 1) (H : ux_in sp pn pg p s l a b 23) : ux_G (B + 1) p (nI m, nI c, ex + 1, kd, ns, np, wo, en, st, pp, sp, pc, pg, pn, rg, ds, fi, ow, po, pw, pl, qu, ou) ((nI m), ex, (nI c), go, kd, (ux_LN kd ns), wo, (ux_EN en), np, st, qp, sp, pn, pg, rg, (ux_ED ds), pc, fi, ow, po, pl, pw, qu, ou) := by
  obtain ⟨hF, hD, hO, hZ, hR, hU, hI, hL, hB⟩ := id hJ
  obtain ⟨hp, hi, ho, ha, ea, hb, eb⟩ := id H
  have cl : (nI p).toNatClampNeg = p := ux_c (by omega)
  have iv : vp_in (nI p) 5 := vp_in_nI hp (by decide)
  have ca : (nI (p * 4 + a)).toNatClampNeg = p * 4 + a := ux_c (by omega)
  have cb : (nI (p * 4 + b)).toNatClampNeg = p * 4 + b := ux_c (by omega)
  have c3 : (nI (p * 4 + 3)).toNatClampNeg = p * 4 + 3 := ux_c (by omega)
  have va : vp_in (nI (p * 4 + a)) 20 := vp_in_nI (by omega) (by decide)
  have vb : vp_in (nI (p * 4 + b)) 20 := vp_in_nI (by omega) (by decide)
  have v3 : vp_in (nI (p * 4 + 3)) 20 := vp_in_nI (by omega) (by decide)
  have e4 : 4 * nI p + nI a = nI (p * 4 + a) := by rw [ux_l_mul, nI_add, Nat.mul_comm]
  have f4 : 4 * nI p + nI b = nI (p * 4 + b) := by rw [ux_l_mul, nI_add, Nat.mul_comm]
  have x3 : nI p * 4 + 3 = nI (p * 4 + 3) := by rw [ux_mul_l, ux_add_l]
  have y3 : 4 * nI p + 3 = nI (p * 4 + 3) := by rw [ux_l_mul, ux_add_l, Nat.mul_comm]
  obtain ⟨⟨d, hd, ed, hd2⟩, _⟩ := (hR p hp).2.2 (Or.inl hs)
  have eS := ((hF.2.2.2.2 d hd).1 hd2).1
  have vd : vp_in (nI d) 10 := vp_in_nI hd (by decide)
  have cd : (nI d).toNatClampNeg = d := ux_c (by omega)
  rcases ux_noye hF.2.1 hd (rg (p * 4 + a)) with hno | ⟨q, n, hye, hk0, _⟩
  · exact op_23f hJ hN hs H hd ed (Or.inl hno)
  · obtain ⟨q1, q2, hn0, hn, q5⟩ := id hye
    have cn : (nI n).toNatClampNeg = n := ux_c (by omega)
    have vn : vp_in (nI n) 10 := vp_in_nI hn (by decide)
    have x15 : nI d * 15 + nI q = nI (d * 15 + q) := by rw [ux_mul_l, nI_add]
    have y15 : 15 * nI d + nI q = nI (d * 15 + q) := by rw [ux_l_mul, nI_add, Nat.mul_comm]
    have c15 : (nI (d * 15 + q)).toNatClampNeg = d * 15 + q := ux_c (by omega)
    have v15 : vp_in (nI (d * 15 + q)) 150 := vp_in_nI (by omega) (by decide)
    have hz : nI (ux_cn en d) = ns d - 1 + 1 := by rw [Int32.sub_add_cancel, eS]
    by_cases h2 : kd n = 2
    · have eN := ((hF.2.2.2.2 n hn).1 h2).1
      have hN6 := ((hF.2.2.2.2 n hn).1 h2).2
      by_cases hc : 0 < ux_cn en n
      · exact op_23f hJ hN hs H hd ed (Or.inr ⟨q, n, hye, h2, Or.inl hc⟩)
      · by_cases hpl : ∃ j, j < 5 ∧ (st j = 1 ∨ st j = 2) ∧ pc j = nI n
        · exact op_23f hJ hN hs H hd ed (Or.inr ⟨q, n, hye, h2, Or.inr ⟨by omega, hpl⟩⟩)
        · have hc0 : ux_cn en n = 0 := by omega
          have hpl2 : ∀ j, j < 5 → ¬ ((st j = 1 ∨ st j = 2) ∧ pc j = nI n) := fun j h1 h3 => hpl ⟨j, h1, h3⟩
          have hFS := ux_FS_rmd hF hn0 hn h2 hd q1 q5 hz hc0
          have hdn : d ≠ n := by
            intro z
            have := hFS.1
            have h3 : (fun j => en (n * 15 + j)) q = 0 := ux_ct_0 15 hc0 q q1
            have h4 : en (n * 15 + q) = 0 := h3
            rw [← z, q5] at h4
            exact ux_nz hn0 (by omega) h4
          refine ux_G2 (r := 1) (go := 1) (kd := upd kd n 0) (ns := upd ns d (ns d - 1)) (en := upd en (d * 15 + q) 0) (rg := upd rg (p * 4 + 3) 1) (sp := upd sp p (sp p + 1)) (ex := ex + 1) (np := np) (wo := wo) (st := st) (pp := pp) (pc := pc) (pg := pg) (pn := pn) (ds := ds) (fi := fi) (ow := ow) (po := po) (pw := pw) (pl := pl) (qu := qu) (ou := ou) (qp := qp) (m := m) (c := c) (fun _ h => xj_23 H (fun Q hQ => ?_)) (fun _ h => yj_23 H (fun Q hQ => ?_)) hD (ux_J_mono (ux_J_rmd hJ hn0 hn h2 hd q1 q5 hz hc0 (fun j h1 h3 h4 => hpl2 j h1 ⟨h3, h4⟩)) (by omega)) hN (Or.inr ⟨rfl, hs⟩)
          · unfold wpX_remove
            dsimp only
            rw [cl, ed]
            refine ⟨iv, xa_nnY hd hye (br_f (ux_nz hn0 (by omega)) ⟨vn, ?_⟩)⟩
            rw [cn, eN, hc0]
            refine br_t h2 ⟨vn, br_f (by decide) (xa_pl0 hpl2 (br_t rfl ⟨vn, nm_e ?_⟩))⟩
            unfold wX_remove_54
            rw [cl, ed, q2, x15, c15, cd]
            exact ⟨iv, v15, nm_e ⟨iv, vd, vd, nm_e (hQ _ _ (x634a hp hs (by decide) h))⟩⟩
          · have eLN : ux_LN (ux_ck (upd kd n 0) (upd en (d * 15 + q) 0) ds fi) (upd ns d (ns d - 1)) = ux_LN kd ns := by
              rw [ux_LN_ck, ux_LN_d (by rw [ux_un hdn]; exact hd2)]
              exact ux_LN_rd h2 (by rw [eN, hc0]; rfl)
            rw [eLN] at h
            unfold wpY_remove
            dsimp only
            rw [e4, ca, cl, ed]
            refine ⟨va, nm_e ⟨iv, ya_nmY hd hye (br_f (nI_pos (by omega)) ⟨vn, br_t (by rw [cn]; exact h2) (ya_eo hF.2.1 hn (br_f (by rw [hc0]; decide) (ya_pl0 hpl2 (br_t rfl ?_))))⟩)⟩⟩
            unfold wY_remove_64
            rw [cl, ed, q2, y15, c15, cn]
            refine ⟨iv, v15, nm_r (e' := ux_EN (upd en (d * 15 + q) 0)) (ux_EN_u0 (by omega)).symm ⟨vn, br_t h2 ⟨vn, nm_e ?_⟩⟩⟩
            exact ya_cl hFS.1 hFS.2.1 hD (ya_done hp (hQ _ (y262a hp rfl (by decide) h)))
    · have hFS := ux_FS_rm hF hn0 hn h2 hd q1 q5 hz
      refine ux_G2 (r := 1) (go := 1) (ns := upd ns d (ns d - 1)) (en := upd en (d * 15 + q) 0) (rg := upd rg (p * 4 + 3) 1) (sp := upd sp p (sp p + 1)) (ex := ex + 1) (kd := kd) (np := np) (wo := wo) (st := st) (pp := pp) (pc := pc) (pg := pg) (pn := pn) (ds := ds) (fi := fi) (ow := ow) (po := po) (pw := pw) (pl := pl) (qu := qu) (ou := ou) (qp := qp) (m := m) (c := c) (fun _ h => xj_23 H (fun Q hQ => ?_)) (fun _ h => yj_23 H (fun Q hQ => ?_)) hD (ux_J_mono (ux_J_rm hJ hn0 hn h2 hd q1 q5 hz) (by omega)) hN (Or.inr ⟨rfl, hs⟩)
      · unfold wpX_remove
        dsimp only
        rw [cl, ed]
        refine ⟨iv, xa_nnY hd hye (br_f (ux_nz hn0 (by omega)) ⟨vn, br_f (by rw [cn]; exact h2) ?_⟩)⟩
        unfold wX_remove_54
        rw [cl, ed, q2, x15, c15, cd]
        exact ⟨iv, v15, nm_e ⟨iv, vd, vd, nm_e (hQ _ _ (x634a hp hs (by decide) h))⟩⟩
      · rw [ux_LN_ck, ux_LN_d hd2] at h
        unfold wpY_remove
        dsimp only
        rw [e4, ca, cl, ed]
        refine ⟨va, nm_e ⟨iv, ya_nmY hd hye (br_f (nI_pos (by omega)) ⟨vn, br_f (by rw [cn]; exact h2) ?_⟩)⟩⟩
        unfold wY_remove_64
        rw [cl, ed, q2, y15, c15, cn]
        refine ⟨iv, v15, nm_r (e' := ux_EN (upd en (d * 15 + q) 0)) (ux_EN_u0 (by omega)).symm ⟨vn, br_f h2 ?_⟩⟩
        exact ya_cl hFS.1 hFS.2.1 hD (ya_done hp (hQ _ (y262a hp rfl (by decide) h)))
end UX25
