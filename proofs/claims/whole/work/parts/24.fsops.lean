section UX24A
variable {ql pr : Int32} {ex : Int64} {kd ns np wo en st pp sp pc pg pn rg ds fi ow po pw pl qu ou : Nat → Int32}
variable {post : Int32 → SX → Prop} {d a n c e : Nat} {r t : Int32}
/-- a new node n can be entered into d by the name r = a; or it can't -/
def ux_CE (kd en : Nat → Int32) (d : Nat) (r : Int32) (a n : Nat) : Prop := a < 15 ∧ r = nI a ∧ en (d * 15 + a) = 0 ∧ 0 < n ∧ n < 10 ∧ kd n = 0 ∧ (∀ j, j < n → kd j ≠ 0) ∧ ux_cn en d < 6
def ux_NC (kd en : Nat → Int32) (d : Nat) (r : Int32) : Prop := (r < 0 ∨ (¬ r < 0 ∧ nI 15 ≤ r)) ∨ ∃ a, a < 15 ∧ r = nI a ∧ (en (d * 15 + a) ≠ 0 ∨ (en (d * 15 + a) = 0 ∧ ((∀ j, j < 10 → kd j ≠ 0) ∨ ((∃ n, 0 < n ∧ n < 10 ∧ kd n = 0 ∧ ∀ j, j < n → kd j ≠ 0) ∧ 6 ≤ ux_cn en d))))
theorem ux_frn (hK : ux_K kd) : (∃ n, 0 < n ∧ n < 10 ∧ kd n = 0 ∧ ∀ j, j < n → kd j ≠ 0) ∨ ∀ j, j < 10 → kd j ≠ 0 := by
  rcases ux_ls (fun j => kd j = 0) 10 with ⟨n, hn, h0, hj⟩ | h
  · refine Or.inl ⟨n, ?_, hn, h0, hj⟩
    rcases Nat.eq_zero_or_pos n with z | z
    · rw [z, hK.1] at h0; exact absurd h0 (by decide)
    · exact z
  · exact Or.inr h
theorem ux_CEN (hF : ux_FS kd ns np en) (d : Nat) (r : Int32) : (∃ a n, ux_CE kd en d r a n) ∨ ux_NC kd en d r := by
  rcases ux_rg r 15 (by decide) with ⟨a, ha, e⟩ | h
  · by_cases h0 : en (d * 15 + a) = 0
    · rcases ux_frn hF.1 with ⟨n, n0, n1, n2, n3⟩ | h
      · by_cases hc : ux_cn en d < 6
        · exact Or.inl ⟨a, n, ha, e, h0, n0, n1, n2, n3, hc⟩
        · exact Or.inr (Or.inr ⟨a, ha, e, Or.inr ⟨h0, Or.inr ⟨⟨n, n0, n1, n2, n3⟩, by omega⟩⟩⟩)
      · exact Or.inr (Or.inr ⟨a, ha, e, Or.inr ⟨h0, Or.inl h⟩⟩)
    · exact Or.inr (Or.inr ⟨a, ha, e, Or.inl h0⟩)
  · exact Or.inr (Or.inl h)
theorem xa_et {post : SX → Prop} (hd : d < 10) (ha : a < 15) (h : post (ql, pr, ex, kd, upd ns d (ns d + 1), np, wo, upd en (d * 15 + a) t, st, pp, sp, pc, pg, pn, rg, ds, fi, ow, po, pw, pl, qu, ou)) : wpX_enter post (ql, pr, ex, kd, ns, np, wo, en, st, pp, sp, pc, pg, pn, rg, ds, fi, ow, po, pw, pl, qu, ou) (nI d) (nI a) t := by
  unfold wpX_enter
  have e : nI d * 15 + nI a = nI (d * 15 + a) := by rw [ux_mul_l, nI_add]
  have vd : vp_in (nI d) 10 := vp_in_nI hd (by decide)
  rw [e, ux_c (n := d * 15 + a) (by omega), ux_c (n := d) (by omega)]
  exact ⟨vp_in_nI (by omega) (by decide), nm_e ⟨vd, vd, nm_e h⟩⟩
theorem xa_mk1 (hd : d < 10) (eS : ns d = nI (ux_cn en d)) (hc : ux_CE kd en d r a n) (h : post (nI n) (ql, pr, ex, upd kd n t, upd (upd ns n 0) d (upd ns n 0 d + 1), upd np n (nI d), wo, upd en (d * 15 + a) (nI n), st, pp, sp, pc, pg, pn, rg, ds, fi, ow, po, pw, pl, qu, ou)) : wpX_makeNode post (ql, pr, ex, kd, ns, np, wo, en, st, pp, sp, pc, pg, pn, rg, ds, fi, ow, po, pw, pl, qu, ou) (nI d) r t := by
  obtain ⟨h1, h2, h3, h4, h5, h6, h7, h8⟩ := hc
  have vn : vp_in (nI n) 10 := vp_in_nI h5 (by decide)
  unfold wpX_makeNode
  refine xa_fr h5 h6 h7 (br_f (ux_nz h4 (by omega)) (xa_ce1 hd ⟨h1, h2, eS, h8, h3⟩ (br_f (by decide) ⟨vn, ?_⟩)))
  rw [ux_c (n := n) (by omega), h2]
  exact nm_e ⟨vn, nm_e ⟨vn, nm_e (xa_et hd h1 h)⟩⟩
theorem ux_NC0 (eS : ns d = nI (ux_cn en d)) (h : ux_NC kd en d r) (hn : 0 < n) (hn2 : n < 10) (hk : kd n = 0) : ux_cn0 ns en d r := by
  have hle := ux_ct_le (fun j => en (d * 15 + j)) 15
  have hle2 : ux_cn en d ≤ 15 := hle
  rcases h with h | ⟨a, ha, e, h⟩
  · exact Or.inl h
  · refine Or.inr ⟨a, ha, e, ?_⟩
    by_cases h6 : ux_cn en d < 6
    · rcases h with h | ⟨_, h | ⟨_, h⟩⟩
      · exact Or.inr ⟨⟨_, h6, eS⟩, h⟩
      · exact absurd hk (h n hn2)
      · omega
    · exact Or.inl ⟨_, by omega, by omega, eS⟩
theorem xa_mk0 (hF : ux_FS kd ns np en) (hd : d < 10) (hd2 : kd d = 2) (hc : ux_NC kd en d r) (h : post 0 (ql, pr, ex, kd, ns, np, wo, en, st, pp, sp, pc, pg, pn, rg, ds, fi, ow, po, pw, pl, qu, ou)) : wpX_makeNode post (ql, pr, ex, kd, ns, np, wo, en, st, pp, sp, pc, pg, pn, rg, ds, fi, ow, po, pw, pl, qu, ou) (nI d) r t := by
  unfold wpX_makeNode
  rcases ux_frn hF.1 with ⟨n, n0, n1, n2, n3⟩ | h0
  · exact xa_fr n1 n2 n3 (br_f (ux_nz n0 (by omega)) (xa_ce0 hd (ux_NC0 ((hF.2.2.2.2 d hd).1 hd2).1 hc n0 n1 n2) (br_t rfl h)))
  · exact xa_fr0 h0 (br_t rfl h)
end UX24A
section UX24B
variable {ql pr go : Int32} {ex : Int64} {kd ns le wo en et np st qp sp pn pg rg ee ds pc fi ow po pl pw qu ou : Nat → Int32}
variable {d a n c e : Nat} {r t : Int32}
theorem ya_ce1 {post : Int32 → Prop} (hE : ux_E kd en) (hd : d < 10) (hc : ux_CE kd en d r a n) (h : post 1) : wpY_canEnter post (ql, ex, pr, go, kd, le, wo, ux_EN en, np, st, qp, sp, pn, pg, rg, ee, pc, fi, ow, po, pl, pw, qu, ou) (nI d) r := by
  obtain ⟨h1, h2, h3, h4, h5, h6, h7, h8⟩ := hc
  have e : 15 * nI d + nI a = nI (d * 15 + a) := by rw [ux_l_mul, nI_add, Nat.mul_comm]
  unfold wpY_canEnter
  dsimp only
  rw [h2]
  refine ya_inN (b := 0) (e := 14) (by omega) (by omega) (by omega) (br_f (by decide) ?_)
  rw [e, ux_c (n := d * 15 + a) (by omega), ux_EN_0 (by omega) h3]
  exact ⟨vp_in_nI (by omega) (by decide), br_f (by decide) (ya_fr h5 h6 h7 (br_f (nI_pos (by omega)) (ya_eo hE hd (br_f (nI_ge (b := 6) h8 (by decide)) h))))⟩
theorem ya_ce0 {post : Int32 → Prop} (hE : ux_E kd en) (hd : d < 10) (hc : ux_NC kd en d r) (h : post 0) : wpY_canEnter post (ql, ex, pr, go, kd, le, wo, ux_EN en, np, st, qp, sp, pn, pg, rg, ee, pc, fi, ow, po, pl, pw, qu, ou) (nI d) r := by
  unfold wpY_canEnter
  rcases hc with hr | ⟨a, ha, er, hc⟩
  · exact ya_inR 14 (by omega) hr (br_t rfl h)
  · have e : 15 * nI d + nI a = nI (d * 15 + a) := by rw [ux_l_mul, nI_add, Nat.mul_comm]
    rw [er]
    refine ya_inN (b := 0) (e := 14) (by omega) (by omega) (by omega) (br_f (by decide) ?_)
    rw [e, ux_c (n := d * 15 + a) (by omega)]
    refine ⟨vp_in_nI (by omega) (by decide), ?_⟩
    rcases hc with hc | ⟨h0, hc⟩
    · exact br_t ((ux_EN_ge hE (by omega)).mpr hc) h
    · rw [ux_EN_0 (by omega) h0]
      refine br_f (by decide) ?_
      have hle : ux_cn en d ≤ 15 := ux_ct_le (fun j => en (d * 15 + j)) 15
      rcases hc with hc | ⟨⟨n, n0, n1, n2, n3⟩, h6⟩
      · exact ya_fr0 hc (br_t (by decide) h)
      · exact ya_fr n1 n2 n3 (br_f (nI_pos (by omega)) (ya_eo hE hd (br_t (nI_le (a := 6) h6 (by omega)) h)))
theorem ys_nw {post : Int32 → SY → Prop} (hd : d < 10) (ha : a < 15) (hn : n < 10) (hz : ∀ j, j < 15 → en (n * 15 + j) = 0) (h : post (nI n) (ql, ex, pr, go, kd, le, wo, upd (ux_EN en) (d * 15 + a) (nI n), np, st, qp, sp, pn, pg, rg, ee, pc, fi, ow, po, pl, pw, qu, ou)) : ∀ r i, i + r = 15 → wY_enterNew_37 post (nI d) (nI a) (nI n) ql ex pr go (r + 1) (nI (n * 15 + i)) kd le wo (ux_EN en) np st qp sp pn pg rg ee pc fi ow po pl pw qu ou := by
  have e : 15 * nI n + 15 = nI (n * 15 + 15) := by rw [ux_l_mul, ux_add_l, Nat.mul_comm]
  have e2 : 15 * nI d + nI a = nI (d * 15 + a) := by rw [ux_l_mul, nI_add, Nat.mul_comm]
  intro r
  induction r with
  | zero =>
    intro i hi
    have ei : i = 15 := by omega
    subst ei
    refine br_t (by rw [e]; exact nI_le (Nat.le_refl _) (by omega)) ?_
    rw [e2, ux_c (n := d * 15 + a) (by omega)]
    exact ⟨vp_in_nI (by omega) (by decide), nm_e h⟩
  | succ r ih =>
    intro i hi
    have H := ih (i + 1) (by omega)
    refine br_f (by rw [e]; exact nI_ge (by omega) (by omega)) ⟨vp_in_nI (by omega) (by decide), ?_⟩
    rw [ux_c (n := n * 15 + i) (by omega)]
    exact nm_r (ux_ue (ux_EN_0 (by omega) (hz i (by omega)))) (nm_r (nI_1 _) H)
theorem ya_nw {post : Int32 → SY → Prop} (hE : ux_E kd en) (hd : d < 10) (hc : ux_CE kd en d r a n) (h : post (nI n) (ql, ex, pr, go, upd kd n t, upd le n 0, wo, ux_EN (upd en (d * 15 + a) (nI n)), upd np n (nI d), st, qp, sp, pn, pg, rg, ee, pc, fi, ow, po, pl, pw, qu, ou)) : wpY_enterNew post (ql, ex, pr, go, kd, le, wo, ux_EN en, np, st, qp, sp, pn, pg, rg, ee, pc, fi, ow, po, pl, pw, qu, ou) (nI d) r t := by
  obtain ⟨h1, h2, h3, h4, h5, h6, h7, h8⟩ := hc
  have vn : vp_in (nI n) 10 := vp_in_nI h5 (by decide)
  rw [ux_EN_u1 (by omega) (ux_nz h4 (by omega))] at h
  unfold wpY_enterNew
  dsimp only
  rw [h2]
  refine ya_fr h5 h6 h7 ⟨vn, ?_⟩
  rw [ux_c (n := n) (by omega)]
  exact nm_e ⟨vn, nm_e ⟨vn, nm_e (nm_r (e' := nI (n * 15 + 0)) (by rw [ux_l_mul, Nat.mul_comm]; rfl) ⟨16, ys_nw hd h1 h5 (ux_dz hE h5 (by rw [h6]; exact ux_n02)) h 15 0 (by omega)⟩)⟩⟩
end UX24B
section UX24
variable {ql pr : Int32} {ex : Int64} {kd ns np wo en st pp sp pc pg pn rg ds fi ow po pw pl qu ou : Nat → Int32}
variable {qp : Nat → Int32} {go : Int32} {B p s l a b m c : Nat}
theorem op_20 (hJ : ux_J B kd ns np en ds fi ow po st pp qp pc pn pl qu m c) (hN : ux_N qu m p) (hs : st p = 1) (H : ux_in sp pn pg p s l a b 20) : ux_G (B + 1) p (nI m, nI c, ex + 1, kd, ns, np, wo, en, st, pp, sp, pc, pg, pn, rg, ds, fi, ow, po, pw, pl, qu, ou) ((nI m), ex, (nI c), go, kd, (ux_LN kd ns), wo, (ux_EN en), np, st, qp, sp, pn, pg, rg, (ux_ED ds), pc, fi, ow, po, pl, pw, qu, ou) := by
  obtain ⟨hF, hD, hO, hZ, hR, hU, hI, hL, hB⟩ := id hJ
  obtain ⟨hp, hi, ho, ha, ea, hb, eb⟩ := id H
  have cl : (nI p).toNatClampNeg = p := ux_c (by omega)
  have iv : vp_in (nI p) 5 := vp_in_nI hp (by decide)
  have ca : (nI (p * 4 + a)).toNatClampNeg = p * 4 + a := ux_c (by omega)
  have cb : (nI (p * 4 + b)).toNatClampNeg = p * 4 + b := ux_c (by omega)
  have c3 : (nI (p * 4 + 3)).toNatClampNeg = p * 4 + 3 := ux_c (by omega)
  have va : vp_in (nI (p * 4 + a)) 20 := vp_in_nI (by omega) (by decide)
  have vb : vp_in (nI (p * 4 + b)) 20 := vp_in_nI (by omega) (by decide)
  have v3 : vp_in (nI (p * 4 + 3)) 20 := vp_in_nI (by omega) (by decide)
  have e4 : 4 * nI p + nI a = nI (p * 4 + a) := by rw [ux_l_mul, nI_add, Nat.mul_comm]
  have f4 : 4 * nI p + nI b = nI (p * 4 + b) := by rw [ux_l_mul, nI_add, Nat.mul_comm]
  have x3 : nI p * 4 + 3 = nI (p * 4 + 3) := by rw [ux_mul_l, ux_add_l]
  have y3 : 4 * nI p + 3 = nI (p * 4 + 3) := by rw [ux_l_mul, ux_add_l, Nat.mul_comm]
  obtain ⟨⟨d, hd, ed, hd2⟩, _⟩ := (hR p hp).2.2 (Or.inl hs)
  have eS := ((hF.2.2.2.2 d hd).1 hd2).1
  rcases ux_CEN hF d (rg (p * 4 + a)) with ⟨q, n, hc⟩ | hc
  · obtain ⟨h1, h2, h3, h4, h5, h6, h7, h8⟩ := id hc
    refine ux_G1 (r := 1) (go := 1) (kd := upd kd n 2) (ns := upd (upd ns n 0) d (upd ns n 0 d + 1)) (np := upd np n (nI d)) (en := upd en (d * 15 + q) (nI n)) (rg := upd rg (p * 4 + 3) 1) (sp := upd sp p (sp p + 1)) (ex := ex + 1) (wo := wo) (st := st) (pp := pp) (pc := pc) (pg := pg) (pn := pn) (ds := ds) (fi := fi) (ow := ow) (po := po) (pw := pw) (pl := pl) (qu := qu) (ou := ou) (qp := qp) (m := m) (c := c) (fun _ h => xj_20 H (fun Q hQ => ?_)) (fun _ h => yj_20 H (fun Q hQ => ?_)) (ux_J_mono (ux_J_new hJ h4 h5 h6 hd hd2 h1 h3 h8 (Or.inr rfl)) (by omega)) hN (Or.inr ⟨rfl, hs⟩)
    · unfold wpX_makeDirectory
      dsimp only
      rw [cl, ed]
      exact ⟨iv, xa_mk1 hd eS hc (br_f (ux_nz h4 (by omega)) (hQ _ _ (x634a hp hs (by decide) h)))⟩
    · rw [ux_LN_new (by rw [h6]; exact ux_n02) hd2] at h
      unfold wpY_makeDirectory
      dsimp only
      rw [e4, ca, cl, ed]
      exact ⟨va, nm_e ⟨iv, ya_ce1 hF.2.1 hd hc (br_f (by decide) ⟨iv, ya_nw hF.2.1 hd hc (ya_done hp (hQ _ (y262a hp rfl (by decide) h)))⟩)⟩⟩
  · refine ux_G1 (r := 1) (go := 1) (rg := upd rg (p * 4 + 3) (-1)) (sp := upd sp p (sp p + 1)) (ex := ex + 1) (kd := kd) (ns := ns) (np := np) (wo := wo) (en := en) (st := st) (pp := pp) (pc := pc) (pg := pg) (pn := pn) (ds := ds) (fi := fi) (ow := ow) (po := po) (pw := pw) (pl := pl) (qu := qu) (ou := ou) (qp := qp) (m := m) (c := c) (fun _ h => xj_20 H (fun Q hQ => ?_)) (fun _ h => yj_20 H (fun Q hQ => ?_)) (ux_J_mono hJ (by omega)) hN (Or.inr ⟨rfl, hs⟩)
    · unfold wpX_makeDirectory
      dsimp only
      rw [cl, ed]
      exact ⟨iv, xa_mk0 hF hd hd2 hc (br_t rfl (hQ _ _ (x634a hp hs (by decide) h)))⟩
    · unfold wpY_makeDirectory
      dsimp only
      rw [e4, ca, cl, ed]
      exact ⟨va, nm_e ⟨iv, ya_ce0 hF.2.1 hd hc (br_t rfl (ya_fail hp (hQ _ (y262a hp rfl (by decide) h))))⟩⟩
theorem op_21 (hJ : ux_J B kd ns np en ds fi ow po st pp qp pc pn pl qu m c) (hN : ux_N qu m p) (hs : st p = 1) (H : ux_in sp pn pg p s l a b 21) : ux_G (B + 1) p (nI m, nI c, ex + 1, kd, ns, np, wo, en, st, pp, sp, pc, pg, pn, rg, ds, fi, ow, po, pw, pl, qu, ou) ((nI m), ex, (nI c), go, kd, (ux_LN kd ns), wo, (ux_EN en), np, st, qp, sp, pn, pg, rg, (ux_ED ds), pc, fi, ow, po, pl, pw, qu, ou) := by
  obtain ⟨hF, hD, hO, hZ, hR, hU, hI, hL, hB⟩ := id hJ
  obtain ⟨hp, hi, ho, ha, ea, hb, eb⟩ := id H
  have cl : (nI p).toNatClampNeg = p := ux_c (by omega)
  have iv : vp_in (nI p) 5 := vp_in_nI hp (by decide)
  have ca : (nI (p * 4 + a)).toNatClampNeg = p * 4 + a := ux_c (by omega)
  have cb : (nI (p * 4 + b)).toNatClampNeg = p * 4 + b := ux_c (by omega)
  have c3 : (nI (p * 4 + 3)).toNatClampNeg = p * 4 + 3 := ux_c (by omega)
  have va : vp_in (nI (p * 4 + a)) 20 := vp_in_nI (by omega) (by decide)
  have vb : vp_in (nI (p * 4 + b)) 20 := vp_in_nI (by omega) (by decide)
  have v3 : vp_in (nI (p * 4 + 3)) 20 := vp_in_nI (by omega) (by decide)
  have e4 : 4 * nI p + nI a = nI (p * 4 + a) := by rw [ux_l_mul, nI_add, Nat.mul_comm]
  have f4 : 4 * nI p + nI b = nI (p * 4 + b) := by rw [ux_l_mul, nI_add, Nat.mul_comm]
  have x3 : nI p * 4 + 3 = nI (p * 4 + 3) := by rw [ux_mul_l, ux_add_l]
  have y3 : 4 * nI p + 3 = nI (p * 4 + 3) := by rw [ux_l_mul, ux_add_l, Nat.mul_comm]
  obtain ⟨⟨d, hd, ed, hd2⟩, _⟩ := (hR p hp).2.2 (Or.inl hs)
  have cd : (nI d).toNatClampNeg = d := ux_c (by omega)
  have vd : vp_in (nI d) 10 := vp_in_nI hd (by decide)
  by_cases h15 : rg (p * 4 + a) = 15
  · have hpar : ∃ e, e < 10 ∧ np d = nI e ∧ kd e = 2 := by
      by_cases z : d = 0
      · exact ⟨0, by omega, by rw [z]; exact hF.2.2.1.1, hF.1.1⟩
      · obtain ⟨e, e1, e2, e3, _⟩ := hF.2.2.1.2 d (by omega) hd hd2
        exact ⟨e, e1, e2, e3⟩
    obtain ⟨e, e1, e2, e3⟩ := hpar
    refine ux_G1 (r := 1) (go := 1) (pc := upd pc p (nI e)) (rg := upd rg (p * 4 + 3) 1) (sp := upd sp p (sp p + 1)) (ex := ex + 1) (kd := kd) (ns := ns) (np := np) (wo := wo) (en := en) (st := st) (pp := pp) (pg := pg) (pn := pn) (ds := ds) (fi := fi) (ow := ow) (po := po) (pw := pw) (pl := pl) (qu := qu) (ou := ou) (qp := qp) (m := m) (c := c) (fun _ h => xj_21 H (fun Q hQ => ?_)) (fun _ h => yj_21 H (fun Q hQ => ?_)) (ux_J_mono (ux_J_pc hJ e1 e3) (by omega)) hN (Or.inr ⟨rfl, hs⟩)
    · unfold wpX_go
      dsimp only
      rw [cl, ed, cd, e2]
      exact br_t h15 ⟨iv, vd, iv, nm_e (hQ _ _ (x634a hp hs (by decide) h))⟩
    · unfold wpY_go
      dsimp only
      rw [e4, ca, cl, ed, cd, e2]
      refine ⟨va, nm_e (br_t h15 ⟨iv, vd, br_f (nI_pos (by omega)) ⟨vp_in_nI e1 (by decide), br_t (by rw [ux_c (by omega)]; exact e3) ⟨iv, ?_⟩⟩⟩)⟩
      rw [cl]
      exact nm_e (ya_done hp (hQ _ (y262a hp rfl (by decide) h)))
  · rcases ux_noye hF.2.1 hd (rg (p * 4 + a)) with hno | ⟨q, n, hye, hk0, _⟩
    · refine ux_G1 (r := 1) (go := 1) (rg := upd rg (p * 4 + 3) (-1)) (sp := upd sp p (sp p + 1)) (ex := ex + 1) (kd := kd) (ns := ns) (np := np) (wo := wo) (en := en) (st := st) (pp := pp) (pc := pc) (pg := pg) (pn := pn) (ds := ds) (fi := fi) (ow := ow) (po := po) (pw := pw) (pl := pl) (qu := qu) (ou := ou) (qp := qp) (m := m) (c := c) (fun _ h => xj_21 H (fun Q hQ => ?_)) (fun _ h => yj_21 H (fun Q hQ => ?_)) (ux_J_mono hJ (by omega)) hN (Or.inr ⟨rfl, hs⟩)
      · unfold wpX_go
        dsimp only
        rw [cl, ed]
        exact br_f h15 ⟨iv, xa_nnN hd hno (br_t rfl (hQ _ _ (x634a hp hs (by decide) h)))⟩
      · unfold wpY_go
        dsimp only
        rw [e4, ca, cl, ed]
        exact ⟨va, nm_e (br_f h15 ⟨iv, ya_nmN hd hno (br_t (by decide) (ya_fail hp (hQ _ (y262a hp rfl (by decide) h))))⟩)⟩
    · have hn := hye.2.2.2.1
      have hn0 := hye.2.2.1
      have cn : (nI n).toNatClampNeg = n := ux_c (by omega)
      have vn : vp_in (nI n) 10 := vp_in_nI hn (by decide)
      by_cases h2 : kd n = 2
      · refine ux_G1 (r := 1) (go := 1) (pc := upd pc p (nI n)) (rg := upd rg (p * 4 + 3) 1) (sp := upd sp p (sp p + 1)) (ex := ex + 1) (kd := kd) (ns := ns) (np := np) (wo := wo) (en := en) (st := st) (pp := pp) (pg := pg) (pn := pn) (ds := ds) (fi := fi) (ow := ow) (po := po) (pw := pw) (pl := pl) (qu := qu) (ou := ou) (qp := qp) (m := m) (c := c) (fun _ h => xj_21 H (fun Q hQ => ?_)) (fun _ h => yj_21 H (fun Q hQ => ?_)) (ux_J_mono (ux_J_pc hJ hn h2) (by omega)) hN (Or.inr ⟨rfl, hs⟩)
        · unfold wpX_go
          dsimp only
          rw [cl, ed]
          refine br_f h15 ⟨iv, xa_nnY hd hye (br_f (ux_nz hn0 (by omega)) ⟨vn, br_t (by rw [cn]; exact h2) ⟨iv, nm_e (hQ _ _ (x634a hp hs (by decide) h))⟩⟩)⟩
        · unfold wpY_go
          dsimp only
          rw [e4, ca, cl, ed]
          refine ⟨va, nm_e (br_f h15 ⟨iv, ya_nmY hd hye (br_f (nI_pos (by omega)) ⟨vn, br_t (by rw [cn]; exact h2) ⟨iv, ?_⟩⟩)⟩)⟩
          rw [cl]
          exact nm_e (ya_done hp (hQ _ (y262a hp rfl (by decide) h)))
      · refine ux_G1 (r := 1) (go := 1) (rg := upd rg (p * 4 + 3) (-1)) (sp := upd sp p (sp p + 1)) (ex := ex + 1) (kd := kd) (ns := ns) (np := np) (wo := wo) (en := en) (st := st) (pp := pp) (pc := pc) (pg := pg) (pn := pn) (ds := ds) (fi := fi) (ow := ow) (po := po) (pw := pw) (pl := pl) (qu := qu) (ou := ou) (qp := qp) (m := m) (c := c) (fun _ h => xj_21 H (fun Q hQ => ?_)) (fun _ h => yj_21 H (fun Q hQ => ?_)) (ux_J_mono hJ (by omega)) hN (Or.inr ⟨rfl, hs⟩)
        · unfold wpX_go
          dsimp only
          rw [cl, ed]
          exact br_f h15 ⟨iv, xa_nnY hd hye (br_f (ux_nz hn0 (by omega)) ⟨vn, br_f (by rw [cn]; exact h2) (hQ _ _ (x634a hp hs (by decide) h))⟩)⟩
        · unfold wpY_go
          dsimp only
          rw [e4, ca, cl, ed]
          exact ⟨va, nm_e (br_f h15 ⟨iv, ya_nmY hd hye (br_f (nI_pos (by omega)) ⟨vn, br_f (by rw [cn]; exact h2) (ya_fail hp (hQ _ (y262a hp rfl (by decide) h)))⟩)⟩)⟩
end UX24
