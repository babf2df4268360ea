section UX21
variable {ql pr : Int32} {ex : Int64} {kd ns np wo en st pp sp pc pg pn rg ds fi ow po pw pl qu ou : Nat → Int32}
variable {qp : Nat → Int32} {go : Int32} {B p s l a b m c v : Nat} {x y : Int32}
/-- an end's new state: 0 without a parent, else 3 -/
theorem ux_px (hR : ux_R kd st pp qp pc pn) (hv : v < 5) (hs : st v = 1 ∨ st v = 2) : ∃ x : Int32, (x = 0 ∨ x = 3) ∧ ((pp v = -1 ∧ x = 0) ∨ (pp v ≠ -1 ∧ x = 3)) ∧ ((¬ 0 ≤ qp v ∧ x = 0) ∨ (0 ≤ qp v ∧ x = 3)) ∧ pp v ≠ nI v := by
  have h0 : st v ≠ 0 := by rcases hs with h | h <;> rw [h] <;> decide
  obtain ⟨e, h⟩ := (hR v hv).2.1 h0
  have ho := ux_own hR hv h0
  rcases h with h | ⟨c, hc, _, h⟩
  · exact ⟨0, Or.inl rfl, Or.inl ⟨h, rfl⟩, Or.inl ⟨by rw [← e, h]; decide, rfl⟩, ho⟩
  · exact ⟨3, Or.inr rfl, Or.inr ⟨by rw [h]; exact ux_neg1 (by omega), rfl⟩, Or.inr ⟨by rw [← e, h]; exact nI_pos' (by omega), rfl⟩, ho⟩
theorem ye_gen {post : SY → Prop} (hJ : ux_J B kd ns np en ds fi ow po st pp qp pc pn pl qu m c) (hv : v < 5) (hs : st v = 1 ∨ st v = 2) (hx : (¬ 0 ≤ qp v ∧ x = 0) ∨ (0 ≤ qp v ∧ x = 3))
    (h : post ((nI (ux_lk qu v m).2), ex, pr, go, (ux_ck kd en (ux_zp ds v) fi), (ux_LN (ux_ck kd en (ux_zp ds v) fi) ns), wo, (ux_EN en), np, (upd (ux_s1 st pp v 5) v x), (ux_p2 st qp v 5), (upd sp v y), pn, pg, rg, (ux_ED (ux_zp ds v)), pc, fi, ow, po, pl, pw, ((ux_lk qu v m).1), ou)) : wpY_end post ((nI m), ex, pr, go, kd, (ux_LN kd ns), wo, (ux_EN en), np, st, qp, sp, pn, pg, rg, (ux_ED ds), pc, fi, ow, po, pl, pw, qu, ou) (nI v) y := by
  obtain ⟨hF, hD, hO, hZ, hR, hU, hI, hL, hB⟩ := hJ
  have h0 : st v ≠ 0 := by rcases hs with h | h <;> rw [h] <;> decide
  rw [ux_LN_ck, ← ux_s12 hR hv h0] at h
  exact ya_en hU.1 hv hF.1 hF.2.1 hD hx h
theorem ye_self {post : SY → Prop} (hJ : ux_J B kd ns np en ds fi ow po st pp qp pc pn pl qu m c) (hN : ux_N qu m v) (hv : v < 5) (hs : st v = 1 ∨ st v = 2) (hx : (¬ 0 ≤ qp v ∧ x = 0) ∨ (0 ≤ qp v ∧ x = 3))
    (h : post ((nI m), ex, pr, go, (ux_ck kd en (ux_zp ds v) fi), (ux_LN (ux_ck kd en (ux_zp ds v) fi) ns), wo, (ux_EN en), np, (upd (ux_s1 st pp v 5) v x), (ux_p2 st qp v 5), (upd sp v y), pn, pg, rg, (ux_ED (ux_zp ds v)), pc, fi, ow, po, pl, pw, qu, ou)) : wpY_end post ((nI m), ex, pr, go, kd, (ux_LN kd ns), wo, (ux_EN en), np, st, qp, sp, pn, pg, rg, (ux_ED ds), pc, fi, ow, po, pl, pw, qu, ou) (nI v) y := by
  refine ye_gen hJ hv hs hx ?_
  rw [ux_lk_id m hN]
  exact h
theorem ux_x1 (hx : x = 0 ∨ x = 3) : x ≠ 1 := by
  rcases hx with h | h <;> rw [h] <;> decide
theorem op_0 (hJ : ux_J B kd ns np en ds fi ow po st pp qp pc pn pl qu m c) (hN : ux_N qu m p) (hs : st p = 1) (H : ux_in sp pn pg p s l a b 0) : ux_G (B + 1) p (nI m, nI c, ex + 1, kd, ns, np, wo, en, st, pp, sp, pc, pg, pn, rg, ds, fi, ow, po, pw, pl, qu, ou) ((nI m), ex, (nI c), go, kd, (ux_LN kd ns), wo, (ux_EN en), np, st, qp, sp, pn, pg, rg, (ux_ED ds), pc, fi, ow, po, pl, pw, qu, ou) := by
  obtain ⟨hF, hD, hO, hZ, hR, hU, hI, hL, hB⟩ := id hJ
  obtain ⟨hp, hi, ho, ha, ea, hb, eb⟩ := id H
  have cl : (nI p).toNatClampNeg = p := ux_c (by omega)
  have iv : vp_in (nI p) 5 := vp_in_nI hp (by decide)
  have ca : (nI (p * 4 + a)).toNatClampNeg = p * 4 + a := ux_c (by omega)
  have cb : (nI (p * 4 + b)).toNatClampNeg = p * 4 + b := ux_c (by omega)
  have c3 : (nI (p * 4 + 3)).toNatClampNeg = p * 4 + 3 := ux_c (by omega)
  have va : vp_in (nI (p * 4 + a)) 20 := vp_in_nI (by omega) (by decide)
  have vb : vp_in (nI (p * 4 + b)) 20 := vp_in_nI (by omega) (by decide)
  have v3 : vp_in (nI (p * 4 + 3)) 20 := vp_in_nI (by omega) (by decide)
  have e4 : 4 * nI p + nI a = nI (p * 4 + a) := by rw [ux_l_mul, nI_add, Nat.mul_comm]
  have f4 : 4 * nI p + nI b = nI (p * 4 + b) := by rw [ux_l_mul, nI_add, Nat.mul_comm]
  have x3 : nI p * 4 + 3 = nI (p * 4 + 3) := by rw [ux_mul_l, ux_add_l]
  have y3 : 4 * nI p + 3 = nI (p * 4 + 3) := by rw [ux_l_mul, ux_add_l, Nat.mul_comm]
  obtain ⟨x, hx, hx1, hx2, hown⟩ := ux_px hR hp (Or.inl hs)
  refine ux_G2 (r := 0) (go := go) (ds := ux_zp ds p) (pp := ux_p1 pp p 5) (qp := ux_p2 st qp p 5) (st := upd (ux_s1 st pp p 5) p x) (sp := upd sp p (rg (p * 4 + a))) (ex := ex + 1) (kd := kd) (ns := ns) (np := np) (wo := wo) (en := en) (pc := pc) (pg := pg) (pn := pn) (rg := rg) (fi := fi) (ow := ow) (po := po) (pw := pw) (pl := pl) (qu := qu) (ou := ou) (m := m) (c := c) (fun _ h => xj_0 H (fun Q hQ => xa_en hp hown hx1 (hQ _ ?_))) (fun _ h => yj_0 H (fun Q hQ => ye_self hJ hN hp (Or.inl hs) hx2 (hQ _ h))) (ux_D_zp hD) (ux_J_mono (ux_J_end hJ hp (Or.inl hs) hx hU hN) (by omega)) hN (Or.inl rfl)
  show wX_execute_634 _ _ _ _ _ _ _ _ _ _ _ _ _ _ _ _ _ _ _ _ _ _ _ _ _ _
  rw [ux_uu]
  exact x634e hp (by rw [ux_us]; exact ux_x1 hx) h
theorem op_out (hJ : ux_J B kd ns np en ds fi ow po st pp qp pc pn pl qu m c) (hN : ux_N qu m p) (hs : st p = 1) (hp : p < 5) (hu : ux_up sp pn p l) : ux_G (B + 1) p (nI m, nI c, ex + 1, kd, ns, np, wo, en, st, pp, sp, pc, pg, pn, rg, ds, fi, ow, po, pw, pl, qu, ou) ((nI m), ex, (nI c), go, kd, (ux_LN kd ns), wo, (ux_EN en), np, st, qp, sp, pn, pg, rg, (ux_ED ds), pc, fi, ow, po, pl, pw, qu, ou) := by
  obtain ⟨hF, hD, hO, hZ, hR, hU, hI, hL, hB⟩ := id hJ
  obtain ⟨x, hx, hx1, hx2, hown⟩ := ux_px hR hp (Or.inl hs)
  exact ux_G2 (r := 0) (go := go) (ds := ux_zp ds p) (pp := ux_p1 pp p 5) (qp := ux_p2 st qp p 5) (st := upd (ux_s1 st pp p 5) p x) (sp := upd sp p (-4)) (ex := ex + 1) (kd := kd) (ns := ns) (np := np) (wo := wo) (en := en) (pc := pc) (pg := pg) (pn := pn) (rg := rg) (fi := fi) (ow := ow) (po := po) (pw := pw) (pl := pl) (qu := qu) (ou := ou) (m := m) (c := c) (fun _ h => xj_out hp hu (fun Q hQ => xa_en hp hown hx1 (hQ _ h))) (fun _ h => yj_out hp hu (fun Q hQ => ye_self hJ hN hp (Or.inl hs) hx2 (hQ _ h))) (ux_D_zp hD) (ux_J_mono (ux_J_end hJ hp (Or.inl hs) hx hU hN) (by omega)) hN (Or.inl rfl)
/-! KILL -/
theorem ux_al (hR : ux_R kd st pp qp pc pn) (r : Int32) : (∃ v, v < 5 ∧ r = nI v ∧ (st v = 1 ∨ st v = 2)) ∨ ((r < 0 ∨ (¬ r < 0 ∧ nI 5 ≤ r)) ∨ ∃ v, v < 5 ∧ r = nI v ∧ st v ≠ 1 ∧ st v ≠ 2) := by
  rcases ux_rg r 5 (by decide) with ⟨v, hv, e⟩ | h
  · rcases (hR v hv).1 with h | h | h | h
    · exact Or.inr (Or.inr ⟨v, hv, e, by rw [h]; decide, by rw [h]; decide⟩)
    · exact Or.inl ⟨v, hv, e, Or.inl h⟩
    · exact Or.inl ⟨v, hv, e, Or.inr h⟩
    · exact Or.inr (Or.inr ⟨v, hv, e, by rw [h]; decide, by rw [h]; decide⟩)
  · exact Or.inr (Or.inl h)
end UX21
section UX21Y
variable {ql pr go : Int32} {ex : Int64} {kd ns le wo en et np st qp sp pn pg rg ee ds pc fi ow po pl pw qu ou : Nat → Int32}
variable {post : Int32 → Prop} {p : Nat} {r w : Int32}
theorem ya_lv1 (hp : p < 5) (hs : st p = 1 ∨ st p = 2) (h : post 1) : wpY_isLive post (ql, ex, pr, go, kd, le, wo, et, np, st, qp, sp, pn, pg, rg, ee, pc, fi, ow, po, pl, pw, qu, ou) (nI p) := by
  unfold wpY_isLive
  have cl : (nI p).toNatClampNeg = p := ux_c (by omega)
  have iv : vp_in (nI p) 5 := vp_in_nI hp (by decide)
  refine ya_inN (b := 0) (e := 4) (by omega) (by omega) (by omega) (br_f (by decide) ⟨iv, ?_⟩)
  rw [cl]
  rcases hs with h1 | h1
  · exact br_t h1 h
  · exact br_f (by rw [h1]; decide) ⟨iv, br_t h1 h⟩
theorem ya_lv0 (hp : p < 5) (h1 : st p ≠ 1) (h2 : st p ≠ 2) (h : post 0) : wpY_isLive post (ql, ex, pr, go, kd, le, wo, et, np, st, qp, sp, pn, pg, rg, ee, pc, fi, ow, po, pl, pw, qu, ou) (nI p) := by
  unfold wpY_isLive
  have cl : (nI p).toNatClampNeg = p := ux_c (by omega)
  have iv : vp_in (nI p) 5 := vp_in_nI hp (by decide)
  refine ya_inN (b := 0) (e := 4) (by omega) (by omega) (by omega) (br_f (by decide) ⟨iv, ?_⟩)
  rw [cl]
  exact br_f h1 ⟨iv, br_f h2 h⟩
theorem ya_lvO (hr : r < 0 ∨ (¬ r < 0 ∧ nI 5 ≤ r)) (h : post 0) : wpY_isLive post (ql, ex, pr, go, kd, le, wo, et, np, st, qp, sp, pn, pg, rg, ee, pc, fi, ow, po, pl, pw, qu, ou) r := by
  unfold wpY_isLive
  exact ya_inR 4 (by omega) hr (br_t rfl h)
theorem ys_pl : ∀ d i f, i + d ≤ 5 → (∀ j, i ≤ j → j < i + d → ¬ ((st j = 1 ∨ st j = 2) ∧ pc j = w)) → wY_isPlace_2 post w ql ex pr go kd le wo et np st qp sp pn pg rg ee pc fi ow po pl pw qu ou f (nI (i + d)) → wY_isPlace_2 post w ql ex pr go kd le wo et np st qp sp pn pg rg ee pc fi ow po pl pw qu ou (f + d) (nI i) := by
  intro d
  induction d with
  | zero => intro i f _ _ h; exact h
  | succ d ih =>
    intro i f hi hj h
    have H := ih (i + 1) f (by omega) (fun j h1 h2 => hj j (by omega) (by omega)) (by rw [show i + 1 + d = i + (d + 1) by omega]; exact h)
    refine br_f (nI_ge (b := 5) (by omega) (by decide)) ?_
    by_cases hs : st i = 1 ∨ st i = 2
    · refine ya_lv1 (by omega) hs (br_f (by decide) ⟨vp_in_nI (by omega) (by decide), br_f ?_ (nm_r (nI_1 i) H)⟩)
      rw [ux_c (by omega)]
      exact fun z => hj i (by omega) (by omega) ⟨hs, z⟩
    · exact ya_lv0 (by omega) (fun z => hs (Or.inl z)) (fun z => hs (Or.inr z)) (br_t rfl (nm_r (nI_1 i) H))
theorem ya_pl1 (hh : ∃ j, j < 5 ∧ (st j = 1 ∨ st j = 2) ∧ pc j = w) (h : post 1) : wpY_isPlace post (ql, ex, pr, go, kd, le, wo, et, np, st, qp, sp, pn, pg, rg, ee, pc, fi, ow, po, pl, pw, qu, ou) w := by
  rcases ux_ls (fun j => (st j = 1 ∨ st j = 2) ∧ pc j = w) 5 with ⟨i, hi, e, hj⟩ | hno
  · refine ⟨1 + i, ys_pl i 0 1 (by omega) (fun j _ h2 => hj j (by omega)) ?_⟩
    rw [Nat.zero_add]
    exact br_f (nI_ge (b := 5) (by omega) (by decide)) (ya_lv1 hi e.1 (br_f (by decide) ⟨vp_in_nI (by omega) (by decide), br_t (by rw [ux_c (by omega)]; exact e.2) h⟩))
  · obtain ⟨j, hj, e⟩ := hh
    exact absurd e (hno j hj)
theorem ya_pl0 (hh : ∀ j, j < 5 → ¬ ((st j = 1 ∨ st j = 2) ∧ pc j = w)) (h : post 0) : wpY_isPlace post (ql, ex, pr, go, kd, le, wo, et, np, st, qp, sp, pn, pg, rg, ee, pc, fi, ow, po, pl, pw, qu, ou) w := by
  refine ⟨1 + 5, ys_pl 5 0 1 (by omega) (fun j _ h2 => hh j (by omega)) ?_⟩
  exact br_t (by decide) h
end UX21Y
section UX21B
variable {ql pr : Int32} {ex : Int64} {kd ns np wo en st pp sp pc pg pn rg ds fi ow po pw pl qu ou : Nat → Int32}
variable {qp : Nat → Int32} {go : Int32} {B p s l a b m c v : Nat} {x y : Int32}
theorem op_28 (hJ : ux_J B kd ns np en ds fi ow po st pp qp pc pn pl qu m c) (hN : ux_N qu m p) (hs : st p = 1) (H : ux_in sp pn pg p s l a b 28) : ux_G (B + 1) p (nI m, nI c, ex + 1, kd, ns, np, wo, en, st, pp, sp, pc, pg, pn, rg, ds, fi, ow, po, pw, pl, qu, ou) ((nI m), ex, (nI c), go, kd, (ux_LN kd ns), wo, (ux_EN en), np, st, qp, sp, pn, pg, rg, (ux_ED ds), pc, fi, ow, po, pl, pw, qu, ou) := by
  obtain ⟨hF, hD, hO, hZ, hR, hU, hI, hL, hB⟩ := id hJ
  obtain ⟨hp, hi, ho, ha, ea, hb, eb⟩ := id H
  have cl : (nI p).toNatClampNeg = p := ux_c (by omega)
  have iv : vp_in (nI p) 5 := vp_in_nI hp (by decide)
  have ca : (nI (p * 4 + a)).toNatClampNeg = p * 4 + a := ux_c (by omega)
  have cb : (nI (p * 4 + b)).toNatClampNeg = p * 4 + b := ux_c (by omega)
  have c3 : (nI (p * 4 + 3)).toNatClampNeg = p * 4 + 3 := ux_c (by omega)
  have va : vp_in (nI (p * 4 + a)) 20 := vp_in_nI (by omega) (by decide)
  have vb : vp_in (nI (p * 4 + b)) 20 := vp_in_nI (by omega) (by decide)
  have v3 : vp_in (nI (p * 4 + 3)) 20 := vp_in_nI (by omega) (by decide)
  have e4 : 4 * nI p + nI a = nI (p * 4 + a) := by rw [ux_l_mul, nI_add, Nat.mul_comm]
  have f4 : 4 * nI p + nI b = nI (p * 4 + b) := by rw [ux_l_mul, nI_add, Nat.mul_comm]
  have x3 : nI p * 4 + 3 = nI (p * 4 + 3) := by rw [ux_mul_l, ux_add_l]
  have y3 : 4 * nI p + 3 = nI (p * 4 + 3) := by rw [ux_l_mul, ux_add_l, Nat.mul_comm]
  have fails : (rg (p * 4 + a) = nI p ∨ (rg (p * 4 + a) ≠ nI p ∧ ((rg (p * 4 + a) < 0 ∨ (¬ rg (p * 4 + a) < 0 ∧ nI 5 ≤ rg (p * 4 + a))) ∨ ∃ v, v < 5 ∧ rg (p * 4 + a) = nI v ∧ st v ≠ 1 ∧ st v ≠ 2))) → ux_G (B + 1) p (nI m, nI c, ex + 1, kd, ns, np, wo, en, st, pp, sp, pc, pg, pn, rg, ds, fi, ow, po, pw, pl, qu, ou) ((nI m), ex, (nI c), go, kd, (ux_LN kd ns), wo, (ux_EN en), np, st, qp, sp, pn, pg, rg, (ux_ED ds), pc, fi, ow, po, pl, pw, qu, ou) := by
    intro hw
    refine ux_G1 (r := 1) (go := 1) (rg := upd rg (p * 4 + 3) (-1)) (sp := upd sp p (sp p + 1)) (ex := ex + 1) (kd := kd) (ns := ns) (np := np) (wo := wo) (en := en) (st := st) (pp := pp) (pc := pc) (pg := pg) (pn := pn) (ds := ds) (fi := fi) (ow := ow) (po := po) (pw := pw) (pl := pl) (qu := qu) (ou := ou) (qp := qp) (m := m) (c := c) (fun _ h => xj_28 H (fun Q hQ => ?_)) (fun _ h => yj_28 H (fun Q hQ => ?_)) (ux_J_mono hJ (by omega)) hN (Or.inr ⟨rfl, hs⟩)
    · have hX := hQ (-1) (nI m, nI c, ex + 1, kd, ns, np, wo, en, st, pp, upd sp p (sp p + 1), pc, pg, pn, rg, ds, fi, ow, po, pw, pl, qu, ou) (x634a hp hs (by decide) h)
      unfold wpX_kill
      rcases hw with z | ⟨z, z2 | ⟨v, hv, e, h1, h2⟩⟩
      · exact br_t z hX
      · exact br_f z (xa_alO z2 (br_t rfl hX))
      · refine br_f z ?_
        rw [e]
        exact xa_al0 hv h1 h2 (br_t rfl hX)
    · have hX : wY_killOther_24 Q (nI p) (nI m) (ex + 1) (nI c) 1 kd (ux_LN kd ns) wo (ux_EN en) np st qp sp pn pg rg (ux_ED ds) pc fi ow po pl pw qu ou := ya_fail hp (hQ _ (y262a hp rfl (by decide) h))
      unfold wpY_killOther
      dsimp only
      rw [e4, ca]
      refine ⟨va, nm_e ?_⟩
      rcases hw with z | ⟨z, z2 | ⟨v, hv, e, h1, h2⟩⟩
      · exact br_t z hX
      · exact br_f z (ya_lvO z2 (br_t rfl hX))
      · refine br_f z ?_
        rw [e]
        exact ya_lv0 hv h1 h2 (br_t rfl hX)
  by_cases hself : rg (p * 4 + a) = nI p
  · exact fails (Or.inl hself)
  · rcases ux_al hR (rg (p * 4 + a)) with ⟨v, hv, e, hvs⟩ | hd
    · have hvp : v ≠ p := fun z => hself (by rw [e, z])
      obtain ⟨x, hx, hx1, hx2, hown⟩ := ux_px hR hv hvs
      have hst : upd (ux_s1 st pp v 5) v x p = 1 := by
        rw [ux_un (Ne.symm hvp), ux_s1_to (by rw [hs]; decide)]; exact hs
      refine ux_G2 (r := 1) (go := 1) (m := (ux_lk qu v m).2) (qu := (ux_lk qu v m).1) (ds := ux_zp ds v) (pp := ux_p1 pp v 5) (qp := ux_p2 st qp v 5) (st := upd (ux_s1 st pp v 5) v x) (sp := upd (upd sp v (-3)) p (sp p + 1)) (rg := upd rg (p * 4 + 3) 1) (ex := ex + 1) (kd := kd) (ns := ns) (np := np) (wo := wo) (en := en) (pc := pc) (pg := pg) (pn := pn) (fi := fi) (ow := ow) (po := po) (pw := pw) (pl := pl) (ou := ou) (c := c) (fun _ h => xj_28 H (fun Q hQ => br_f hself ?_)) (fun _ h => yj_28 H (fun Q hQ => ?_)) (ux_D_zp hD) (ux_J_mono (ux_J_end hJ hv hvs hx (ux_Q_lk hU).1 (ux_Q_lk hU).2) (by omega)) (ux_N_lk hN) (Or.inr ⟨rfl, hst⟩)
      · rw [e]
        refine xa_al1 hv hvs (br_f (by decide) (xa_en hv hown hx1 (xa_lq hU.1 (hQ _ _ ?_))))
        have es : upd (upd sp p (sp p + 1)) v (-3) = upd (upd sp v (-3)) p (sp p + 1) := ux_uc (Ne.symm hvp)
        have key := x634a (x := 28) hp hst (by decide) h
        rw [← es] at key
        exact key
      · unfold wpY_killOther
        dsimp only
        rw [e4, ca, e]
        refine ⟨va, nm_e (br_f (ux_ne hvp (by omega) (by omega)) (ya_lv1 hv hvs (br_f (by decide) (ye_gen hJ hv hvs hx2 (ya_done hp (hQ _ ?_))))))⟩
        refine y262a hp rfl (by decide) ?_
        dsimp only
        rw [ux_un (Ne.symm hvp)]
        exact h
    · exact fails (Or.inr ⟨hself, hd⟩)
end UX21B
