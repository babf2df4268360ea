section UX17
variable {ql pr : Int32} {ex : Int64} {kd ns np wo en st pp sp pc pg pn rg ds fi ow po pw pl qu ou : Nat → Int32}
variable {qp : Nat → Int32} {go : Int32} {B p s l a b m c : Nat} {r : Int32} {u : SX} {v : SY}
/-- the states in p's turn: related, p not in the queue; r says whether the turn goes on -/
def ux_T (B p : Nat) (r : Int32) (u : SX) (v : SY) : Prop := ∃ (ex : Int64) (kd ns np wo en st pp sp pc pg pn rg ds fi ow po pw pl qu ou qp : Nat → Int32) (go : Int32) (m c : Nat),
  u = (nI m, nI c, ex, kd, ns, np, wo, en, st, pp, sp, pc, pg, pn, rg, ds, fi, ow, po, pw, pl, qu, ou) ∧ v = ((nI m), ex, (nI c), go, kd, (ux_LN kd ns), wo, (ux_EN en), np, st, qp, sp, pn, pg, rg, (ux_ED ds), pc, fi, ow, po, pl, pw, qu, ou) ∧ ux_J B kd ns np en ds fi ow po st pp qp pc pn pl qu m c ∧ ux_N qu m p ∧ (r = 0 ∨ (r = 1 ∧ st p = 1))
def ux_G (B p : Nat) (u : SX) (v : SY) : Prop := ∃ (r : Int32) (u1 u2 : SX) (v2 : SY), (∀ post : Int32 → SX → Prop, post r u1 → wpX_execute post u (nI p)) ∧ (∀ post : SX → Prop, post u2 → wpX_freeLostFiles post u1) ∧ (∀ post : Int32 → SY → Prop, post r v2 → wpY_execute post v (nI p)) ∧ ux_T B p r u2 v2
theorem ux_G2 (hX : ∀ post : Int32 → SX → Prop, post r (nI m, nI c, ex, kd, ns, np, wo, en, st, pp, sp, pc, pg, pn, rg, ds, fi, ow, po, pw, pl, qu, ou) → wpX_execute post u (nI p)) (hY : ∀ post : Int32 → SY → Prop, post r ((nI m), ex, (nI c), go, (ux_ck kd en ds fi), (ux_LN (ux_ck kd en ds fi) ns), wo, (ux_EN en), np, st, qp, sp, pn, pg, rg, (ux_ED ds), pc, fi, ow, po, pl, pw, qu, ou) → wpY_execute post v (nI p)) (hD : ux_D ds) (hJ : ux_J B (ux_ck kd en ds fi) ns np en ds fi ow po st pp qp pc pn pl qu m c) (hN : ux_N qu m p) (hr : r = 0 ∨ (r = 1 ∧ st p = 1)) : ux_G B p u v :=
  ⟨r, _, _, _, hX, fun _ h => xa_fl hD h, hY, ⟨ex, ux_ck kd en ds fi, ns, np, wo, en, st, pp, sp, pc, pg, pn, rg, ds, fi, ow, po, pw, pl, qu, ou, qp, go, m, c, rfl, rfl, hJ, hN, hr⟩⟩
theorem ux_G1 (hX : ∀ post : Int32 → SX → Prop, post r (nI m, nI c, ex, kd, ns, np, wo, en, st, pp, sp, pc, pg, pn, rg, ds, fi, ow, po, pw, pl, qu, ou) → wpX_execute post u (nI p)) (hY : ∀ post : Int32 → SY → Prop, post r ((nI m), ex, (nI c), go, kd, (ux_LN kd ns), wo, (ux_EN en), np, st, qp, sp, pn, pg, rg, (ux_ED ds), pc, fi, ow, po, pl, pw, qu, ou) → wpY_execute post v (nI p)) (hJ : ux_J B kd ns np en ds fi ow po st pp qp pc pn pl qu m c) (hN : ux_N qu m p) (hr : r = 0 ∨ (r = 1 ∧ st p = 1)) : ux_G B p u v := by
  have e : ux_ck kd en ds fi = kd := ux_ck_id hJ.2.2.2.2.2.2.2.1 hJ.1.1.1
  exact ux_G2 (kd := kd) hX (by rw [e]; exact hY) hJ.2.1 (by rw [e]; exact hJ) hN hr
theorem op_1 (hJ : ux_J B kd ns np en ds fi ow po st pp qp pc pn pl qu m c) (hN : ux_N qu m p) (hs : st p = 1) (H : ux_in sp pn pg p s l a b 1) : ux_G (B + 1) p (nI m, nI c, ex + 1, kd, ns, np, wo, en, st, pp, sp, pc, pg, pn, rg, ds, fi, ow, po, pw, pl, qu, ou) ((nI m), ex, (nI c), go, kd, (ux_LN kd ns), wo, (ux_EN en), np, st, qp, sp, pn, pg, rg, (ux_ED ds), pc, fi, ow, po, pl, pw, qu, ou) :=
  ux_G1 (go := 1) (fun _ h => xj_1 H (x634a H.1 hs (by decide) h)) (fun _ h => yj_1 H (y262a H.1 rfl (by decide) h)) (ux_J_mono hJ (by omega)) hN (Or.inr ⟨rfl, hs⟩)
theorem op_2 (hJ : ux_J B kd ns np en ds fi ow po st pp qp pc pn pl qu m c) (hN : ux_N qu m p) (hs : st p = 1) (H : ux_in sp pn pg p s l a b 2) : ux_G (B + 1) p (nI m, nI c, ex + 1, kd, ns, np, wo, en, st, pp, sp, pc, pg, pn, rg, ds, fi, ow, po, pw, pl, qu, ou) ((nI m), ex, (nI c), go, kd, (ux_LN kd ns), wo, (ux_EN en), np, st, qp, sp, pn, pg, rg, (ux_ED ds), pc, fi, ow, po, pl, pw, qu, ou) :=
  ux_G1 (go := 1) (fun _ h => xj_2 H (x634a H.1 hs (by decide) h)) (fun _ h => yj_2 H (y262a H.1 rfl (by decide) h)) (ux_J_mono hJ (by omega)) hN (Or.inr ⟨rfl, hs⟩)
theorem op_3 (hJ : ux_J B kd ns np en ds fi ow po st pp qp pc pn pl qu m c) (hN : ux_N qu m p) (hs : st p = 1) (H : ux_in sp pn pg p s l a b 3) : ux_G (B + 1) p (nI m, nI c, ex + 1, kd, ns, np, wo, en, st, pp, sp, pc, pg, pn, rg, ds, fi, ow, po, pw, pl, qu, ou) ((nI m), ex, (nI c), go, kd, (ux_LN kd ns), wo, (ux_EN en), np, st, qp, sp, pn, pg, rg, (ux_ED ds), pc, fi, ow, po, pl, pw, qu, ou) :=
  ux_G1 (go := 1) (fun _ h => xj_3 H (x634a H.1 hs (by decide) h)) (fun _ h => yj_3 H (y262a H.1 rfl (by decide) h)) (ux_J_mono hJ (by omega)) hN (Or.inr ⟨rfl, hs⟩)
theorem op_4 (hJ : ux_J B kd ns np en ds fi ow po st pp qp pc pn pl qu m c) (hN : ux_N qu m p) (hs : st p = 1) (H : ux_in sp pn pg p s l a b 4) : ux_G (B + 1) p (nI m, nI c, ex + 1, kd, ns, np, wo, en, st, pp, sp, pc, pg, pn, rg, ds, fi, ow, po, pw, pl, qu, ou) ((nI m), ex, (nI c), go, kd, (ux_LN kd ns), wo, (ux_EN en), np, st, qp, sp, pn, pg, rg, (ux_ED ds), pc, fi, ow, po, pl, pw, qu, ou) :=
  ux_G1 (go := 1) (fun _ h => xj_4 H (x634a H.1 hs (by decide) h)) (fun _ h => yj_4 H (y262a H.1 rfl (by decide) h)) (ux_J_mono hJ (by omega)) hN (Or.inr ⟨rfl, hs⟩)
theorem op_5 (hJ : ux_J B kd ns np en ds fi ow po st pp qp pc pn pl qu m c) (hN : ux_N qu m p) (hs : st p = 1) (H : ux_in sp pn pg p s l a b 5) : ux_G (B + 1) p (nI m, nI c, ex + 1, kd, ns, np, wo, en, st, pp, sp, pc, pg, pn, rg, ds, fi, ow, po, pw, pl, qu, ou) ((nI m), ex, (nI c), go, kd, (ux_LN kd ns), wo, (ux_EN en), np, st, qp, sp, pn, pg, rg, (ux_ED ds), pc, fi, ow, po, pl, pw, qu, ou) :=
  ux_G1 (go := 1) (fun _ h => xj_5 H (x634a H.1 hs (by decide) h)) (fun _ h => yj_5 H (y262a H.1 rfl (by decide) h)) (ux_J_mono hJ (by omega)) hN (Or.inr ⟨rfl, hs⟩)
theorem op_6 (hJ : ux_J B kd ns np en ds fi ow po st pp qp pc pn pl qu m c) (hN : ux_N qu m p) (hs : st p = 1) (H : ux_in sp pn pg p s l a b 6) : ux_G (B + 1) p (nI m, nI c, ex + 1, kd, ns, np, wo, en, st, pp, sp, pc, pg, pn, rg, ds, fi, ow, po, pw, pl, qu, ou) ((nI m), ex, (nI c), go, kd, (ux_LN kd ns), wo, (ux_EN en), np, st, qp, sp, pn, pg, rg, (ux_ED ds), pc, fi, ow, po, pl, pw, qu, ou) :=
  ux_G1 (go := 1) (fun _ h => xj_6 H (x634a H.1 hs (by decide) h)) (fun _ h => yj_6 H (y262a H.1 rfl (by decide) h)) (ux_J_mono hJ (by omega)) hN (Or.inr ⟨rfl, hs⟩)
theorem op_26 (hJ : ux_J B kd ns np en ds fi ow po st pp qp pc pn pl qu m c) (hN : ux_N qu m p) (hs : st p = 1) (H : ux_in sp pn pg p s l a b 26) : ux_G (B + 1) p (nI m, nI c, ex + 1, kd, ns, np, wo, en, st, pp, sp, pc, pg, pn, rg, ds, fi, ow, po, pw, pl, qu, ou) ((nI m), ex, (nI c), go, kd, (ux_LN kd ns), wo, (ux_EN en), np, st, qp, sp, pn, pg, rg, (ux_ED ds), pc, fi, ow, po, pl, pw, qu, ou) :=
  ux_G1 (go := 1) (fun _ h => xj_26 H (x634a H.1 hs (by decide) h)) (fun _ h => yj_26 H (y262a H.1 rfl (by decide) h)) (ux_J_mono hJ (by omega)) hN (Or.inr ⟨rfl, hs⟩)
theorem op_29 (hJ : ux_J B kd ns np en ds fi ow po st pp qp pc pn pl qu m c) (hN : ux_N qu m p) (hs : st p = 1) (H : ux_in sp pn pg p s l a b 29) : ux_G (B + 1) p (nI m, nI c, ex + 1, kd, ns, np, wo, en, st, pp, sp, pc, pg, pn, rg, ds, fi, ow, po, pw, pl, qu, ou) ((nI m), ex, (nI c), go, kd, (ux_LN kd ns), wo, (ux_EN en), np, st, qp, sp, pn, pg, rg, (ux_ED ds), pc, fi, ow, po, pl, pw, qu, ou) :=
  ux_G1 (r := 1) (go := 1) (rg := rg) (sp := upd sp p (sp p + 1)) (ex := ex + 1) (kd := kd) (ns := ns) (np := np) (wo := wo) (en := en) (st := st) (pp := pp) (pc := pc) (pg := pg) (pn := pn) (ds := ds) (fi := fi) (ow := ow) (po := po) (pw := pw) (pl := pl) (qu := qu) (ou := ou) (qp := qp) (m := m) (c := c) (fun _ h => xj_29 H (by rw [ux_ue rfl]; exact x634a H.1 hs (by decide) h)) (fun _ h => yj_29 H (y262a H.1 rfl (by decide) h)) (ux_J_mono hJ (by omega)) hN (Or.inr ⟨rfl, hs⟩)
theorem op_30 (hJ : ux_J B kd ns np en ds fi ow po st pp qp pc pn pl qu m c) (hN : ux_N qu m p) (hs : st p = 1) (H : ux_in sp pn pg p s l a b 30) : ux_G (B + 1) p (nI m, nI c, ex + 1, kd, ns, np, wo, en, st, pp, sp, pc, pg, pn, rg, ds, fi, ow, po, pw, pl, qu, ou) ((nI m), ex, (nI c), go, kd, (ux_LN kd ns), wo, (ux_EN en), np, st, qp, sp, pn, pg, rg, (ux_ED ds), pc, fi, ow, po, pl, pw, qu, ou) :=
  ux_G1 (r := 1) (go := 1) (rg := rg) (sp := upd sp p (sp p + 1)) (ex := ex + 1) (kd := kd) (ns := ns) (np := np) (wo := wo) (en := en) (st := st) (pp := pp) (pc := pc) (pg := pg) (pn := pn) (ds := ds) (fi := fi) (ow := ow) (po := po) (pw := pw) (pl := pl) (qu := qu) (ou := ou) (qp := qp) (m := m) (c := c) (fun _ h => xj_30 H (by rw [ux_ue rfl]; exact x634a H.1 hs (by decide) h)) (fun _ h => yj_30 H (y262a H.1 rfl (by decide) h)) (ux_J_mono hJ (by omega)) hN (Or.inr ⟨rfl, hs⟩)
theorem op_31 (hJ : ux_J B kd ns np en ds fi ow po st pp qp pc pn pl qu m c) (hN : ux_N qu m p) (hs : st p = 1) (H : ux_in sp pn pg p s l a b 31) : ux_G (B + 1) p (nI m, nI c, ex + 1, kd, ns, np, wo, en, st, pp, sp, pc, pg, pn, rg, ds, fi, ow, po, pw, pl, qu, ou) ((nI m), ex, (nI c), go, kd, (ux_LN kd ns), wo, (ux_EN en), np, st, qp, sp, pn, pg, rg, (ux_ED ds), pc, fi, ow, po, pl, pw, qu, ou) :=
  ux_G1 (r := 1) (go := 1) (rg := rg) (sp := upd sp p (sp p + 1)) (ex := ex + 1) (kd := kd) (ns := ns) (np := np) (wo := wo) (en := en) (st := st) (pp := pp) (pc := pc) (pg := pg) (pn := pn) (ds := ds) (fi := fi) (ow := ow) (po := po) (pw := pw) (pl := pl) (qu := qu) (ou := ou) (qp := qp) (m := m) (c := c) (fun _ h => xj_31 H (by rw [ux_ue rfl]; exact x634a H.1 hs (by decide) h)) (fun _ h => yj_31 H (y262a H.1 rfl (by decide) h)) (ux_J_mono hJ (by omega)) hN (Or.inr ⟨rfl, hs⟩)
theorem op_25 (hJ : ux_J B kd ns np en ds fi ow po st pp qp pc pn pl qu m c) (hN : ux_N qu m p) (hs : st p = 1) (H : ux_in sp pn pg p s l a b 25) : ux_G (B + 1) p (nI m, nI c, ex + 1, kd, ns, np, wo, en, st, pp, sp, pc, pg, pn, rg, ds, fi, ow, po, pw, pl, qu, ou) ((nI m), ex, (nI c), go, kd, (ux_LN kd ns), wo, (ux_EN en), np, st, qp, sp, pn, pg, rg, (ux_ED ds), pc, fi, ow, po, pl, pw, qu, ou) :=
  ux_G1 (r := 0) (go := 1) (rg := rg) (sp := upd sp p (sp p + 1)) (ex := ex + 1) (kd := kd) (ns := ns) (np := np) (wo := wo) (en := en) (st := st) (pp := pp) (pc := pc) (pg := pg) (pn := pn) (ds := ds) (fi := fi) (ow := ow) (po := po) (pw := pw) (pl := pl) (qu := qu) (ou := ou) (qp := qp) (m := m) (c := c) (fun _ h => xj_25 H (by rw [ux_ue rfl]; exact x634y H.1 hs h)) (fun _ h => yj_25 H (y262y H.1 rfl h)) (ux_J_mono hJ (by omega)) hN (Or.inl rfl)
theorem op_8 (hJ : ux_J B kd ns np en ds fi ow po st pp qp pc pn pl qu m c) (hN : ux_N qu m p) (hs : st p = 1) (H : ux_in sp pn pg p s l a b 8) : ux_G (B + 1) p (nI m, nI c, ex + 1, kd, ns, np, wo, en, st, pp, sp, pc, pg, pn, rg, ds, fi, ow, po, pw, pl, qu, ou) ((nI m), ex, (nI c), go, kd, (ux_LN kd ns), wo, (ux_EN en), np, st, qp, sp, pn, pg, rg, (ux_ED ds), pc, fi, ow, po, pl, pw, qu, ou) :=
  ux_G1 (r := 1) (go := go) (sp := upd sp p (pg (p * 20 + s) >>> ((9 : Int32) &&& 31))) (ex := ex + 1) (kd := kd) (ns := ns) (np := np) (wo := wo) (en := en) (st := st) (pp := pp) (pc := pc) (pg := pg) (pn := pn) (rg := rg) (ds := ds) (fi := fi) (ow := ow) (po := po) (pw := pw) (pl := pl) (qu := qu) (ou := ou) (qp := qp) (m := m) (c := c) (fun _ h => xj_8 H (by rw [ux_uu]; exact x634a H.1 hs (by decide) h)) (fun _ h => yj_8 H h) (ux_J_mono hJ (by omega)) hN (Or.inr ⟨rfl, hs⟩)
theorem op_7 (hJ : ux_J B kd ns np en ds fi ow po st pp qp pc pn pl qu m c) (hN : ux_N qu m p) (hs : st p = 1) (H : ux_in sp pn pg p s l a b 7) : ux_G (B + 1) p (nI m, nI c, ex + 1, kd, ns, np, wo, en, st, pp, sp, pc, pg, pn, rg, ds, fi, ow, po, pw, pl, qu, ou) ((nI m), ex, (nI c), go, kd, (ux_LN kd ns), wo, (ux_EN en), np, st, qp, sp, pn, pg, rg, (ux_ED ds), pc, fi, ow, po, pl, pw, qu, ou) := by
  by_cases hz : rg (p * 4 + a) = 0
  · exact ux_G1 (r := 1) (go := go) (sp := upd sp p (pg (p * 20 + s) >>> ((9 : Int32) &&& 31))) (ex := ex + 1) (kd := kd) (ns := ns) (np := np) (wo := wo) (en := en) (st := st) (pp := pp) (pc := pc) (pg := pg) (pn := pn) (rg := rg) (ds := ds) (fi := fi) (ow := ow) (po := po) (pw := pw) (pl := pl) (qu := qu) (ou := ou) (qp := qp) (m := m) (c := c) (fun _ h => xj_7z H hz (by rw [ux_uu]; exact x634a H.1 hs (by decide) h)) (fun _ h => yj_7z H hz h) (ux_J_mono hJ (by omega)) hN (Or.inr ⟨rfl, hs⟩)
  · exact ux_G1 (go := 1) (fun _ h => xj_7n H hz (x634a H.1 hs (by decide) h)) (fun _ h => yj_7n H hz (y262a H.1 rfl (by decide) h)) (ux_J_mono hJ (by omega)) hN (Or.inr ⟨rfl, hs⟩)
theorem op_9 (hJ : ux_J B kd ns np en ds fi ow po st pp qp pc pn pl qu m c) (hN : ux_N qu m p) (hs : st p = 1) (H : ux_in sp pn pg p s l a b 9) : ux_G (B + 1) p (nI m, nI c, ex + 1, kd, ns, np, wo, en, st, pp, sp, pc, pg, pn, rg, ds, fi, ow, po, pw, pl, qu, ou) ((nI m), ex, (nI c), go, kd, (ux_LN kd ns), wo, (ux_EN en), np, st, qp, sp, pn, pg, rg, (ux_ED ds), pc, fi, ow, po, pl, pw, qu, ou) := by
  by_cases hz : rg (p * 4 + a) = 0
  · exact ux_G1 (go := 1) (fun _ h => xj_9z H hz (x634a H.1 hs (by decide) h)) (fun _ h => yj_9z H hz (y262a H.1 rfl (by decide) h)) (ux_J_mono hJ (by omega)) hN (Or.inr ⟨rfl, hs⟩)
  · exact ux_G1 (r := 1) (go := go) (sp := upd sp p (pg (p * 20 + s) >>> ((9 : Int32) &&& 31))) (ex := ex + 1) (kd := kd) (ns := ns) (np := np) (wo := wo) (en := en) (st := st) (pp := pp) (pc := pc) (pg := pg) (pn := pn) (rg := rg) (ds := ds) (fi := fi) (ow := ow) (po := po) (pw := pw) (pl := pl) (qu := qu) (ou := ou) (qp := qp) (m := m) (c := c) (fun _ h => xj_9n H hz (by rw [ux_uu]; exact x634a H.1 hs (by decide) h)) (fun _ h => yj_9n H hz h) (ux_J_mono hJ (by omega)) hN (Or.inr ⟨rfl, hs⟩)
theorem op_24 (hJ : ux_J B kd ns np en ds fi ow po st pp qp pc pn pl qu m c) (hN : ux_N qu m p) (hs : st p = 1) (H : ux_in sp pn pg p s l a b 24) (hB : B < 1000000) : ux_G (B + 1) p (nI m, nI c, ex + 1, kd, ns, np, wo, en, st, pp, sp, pc, pg, pn, rg, ds, fi, ow, po, pw, pl, qu, ou) ((nI m), ex, (nI c), go, kd, (ux_LN kd ns), wo, (ux_EN en), np, st, qp, sp, pn, pg, rg, (ux_ED ds), pc, fi, ow, po, pl, pw, qu, ou) := by
  have hc : c ≤ B := hJ.2.2.2.2.2.2.2.2
  by_cases h32 : c < 32
  · refine ux_G1 (r := 1) (go := 1) (m := m) (c := c + 1) (ou := upd ou c (rg (p * 4 + a))) (sp := upd sp p (sp p + 1)) (ex := ex + 1) (kd := kd) (ns := ns) (np := np) (wo := wo) (en := en) (st := st) (pp := pp) (pc := pc) (pg := pg) (pn := pn) (rg := rg) (ds := ds) (fi := fi) (ow := ow) (po := po) (pw := pw) (pl := pl) (qu := qu) (qp := qp) (fun _ h => xj_24 H (fun Q hQ => br_f (nI_pos (by omega)) (br_f (nI_ge (b := 32) h32 (by decide)) ⟨vp_in_nI h32 (by decide), ?_⟩))) (fun _ h => yj_24 H (fun Q hQ => br_f (nI_ge (b := 32) h32 (by decide)) ⟨vp_in_nI h32 (by decide), ?_⟩)) (ux_J_out hJ) hN (Or.inr ⟨rfl, hs⟩)
    · rw [ux_c (by omega)]
      exact nm_e (nm_r (nI_1 c) (hQ _ (x634a H.1 hs (by decide) h)))
    · rw [ux_c (by omega)]
      exact nm_e (nm_r (nI_1 c) (hQ _ (y262a H.1 rfl (by decide) h)))
  · have h3 : (32 : Int32) ≤ nI c := nI_le (a := 32) (by omega) (by omega)
    exact ux_G1 (r := 1) (go := 1) (m := m) (c := c + 1) (sp := upd sp p (sp p + 1)) (ex := ex + 1) (kd := kd) (ns := ns) (np := np) (wo := wo) (en := en) (st := st) (pp := pp) (pc := pc) (pg := pg) (pn := pn) (rg := rg) (ds := ds) (fi := fi) (ow := ow) (po := po) (pw := pw) (pl := pl) (qu := qu) (ou := ou) (qp := qp) (fun _ h => xj_24 H (fun Q hQ => br_f (nI_pos (by omega)) (br_t h3 (nm_r (nI_1 c) (hQ _ (x634a H.1 hs (by decide) h)))))) (fun _ h => yj_24 H (fun Q hQ => br_t h3 (nm_r (nI_1 c) (hQ _ (y262a H.1 rfl (by decide) h))))) (ux_J_out hJ) hN (Or.inr ⟨rfl, hs⟩)
theorem op_27 (hJ : ux_J B kd ns np en ds fi ow po st pp qp pc pn pl qu m c) (hN : ux_N qu m p) (hs : st p = 1) (H : ux_in sp pn pg p s l a b 27) : ux_G (B + 1) p (nI m, nI c, ex + 1, kd, ns, np, wo, en, st, pp, sp, pc, pg, pn, rg, ds, fi, ow, po, pw, pl, qu, ou) ((nI m), ex, (nI c), go, kd, (ux_LN kd ns), wo, (ux_EN en), np, st, qp, sp, pn, pg, rg, (ux_ED ds), pc, fi, ow, po, pl, pw, qu, ou) := by
  obtain ⟨hF, hD, hO, hZ, hR, _⟩ := id hJ
  obtain ⟨⟨d, hd, ed, hd2⟩, _⟩ := (hR p H.1).2.2 (Or.inl hs)
  have cl : (nI p).toNatClampNeg = p := ux_c (by have := H.1; omega)
  have iv : vp_in (nI p) 5 := vp_in_nI H.1 (by decide)
  rcases ux_noye hF.2.1 hd (rg (p * 4 + a)) with hno | ⟨q, n, hye, hk0, _⟩
  · refine ux_G1 (r := 1) (go := 1) (rg := upd rg (p * 4 + a) (-1)) (sp := upd sp p (sp p + 1)) (ex := ex + 1) (kd := kd) (ns := ns) (np := np) (wo := wo) (en := en) (st := st) (pp := pp) (pc := pc) (pg := pg) (pn := pn) (ds := ds) (fi := fi) (ow := ow) (po := po) (pw := pw) (pl := pl) (qu := qu) (ou := ou) (qp := qp) (m := m) (c := c) (fun _ h => xj_27 H (fun Q hQ => ?_)) (fun _ h => yj_27 H ed (fun Q hQ => ya_nmN hd hno (hQ _ (fun Q2 hQ2 => br_f (by decide) (hQ2 _ (y262a H.1 rfl (by decide) h)))))) (ux_J_mono hJ (by omega)) hN (Or.inr ⟨rfl, hs⟩)
    unfold wpX_sizeNamed
    dsimp only
    rw [cl, ed]
    exact ⟨iv, xa_nnN hd hno (br_t rfl (hQ _ (x634a H.1 hs (by decide) h)))⟩
  · have hn := hye.2.2.2.1
    have hn0 := hye.2.2.1
    have cn : (nI n).toNatClampNeg = n := ux_c (by omega)
    have ivn : vp_in (nI n) 10 := vp_in_nI hn (by decide)
    refine ux_G1 (r := 1) (go := 1) (rg := upd rg (p * 4 + a) (ns n)) (sp := upd sp p (sp p + 1)) (ex := ex + 1) (kd := kd) (ns := ns) (np := np) (wo := wo) (en := en) (st := st) (pp := pp) (pc := pc) (pg := pg) (pn := pn) (ds := ds) (fi := fi) (ow := ow) (po := po) (pw := pw) (pl := pl) (qu := qu) (ou := ou) (qp := qp) (m := m) (c := c) (fun _ h => xj_27 H (fun Q hQ => ?_)) (fun _ h => yj_27 H ed (fun Q hQ => ya_nmY hd hye (hQ _ (fun Q2 hQ2 => br_t (nI_pos' (by omega)) ⟨ivn, ?_⟩)))) (ux_J_mono hJ (by omega)) hN (Or.inr ⟨rfl, hs⟩)
    · unfold wpX_sizeNamed
      dsimp only
      rw [cl, ed]
      refine ⟨iv, xa_nnY hd hye (br_f (ux_nz hn0 (by omega)) ⟨ivn, ?_⟩)⟩
      rw [cn]
      exact hQ _ (x634a H.1 hs (by decide) h)
    · rw [cn]
      by_cases h1 : kd n = 1
      · refine br_t h1 ⟨ivn, hQ2 _ ?_⟩
        rw [ux_LN_f (by rw [h1]; exact ux_n12)]
        exact y262a H.1 rfl (by decide) h
      · have h2 : kd n = 2 := by
          rcases hF.1.2 n hn with z | z | z
          · exact absurd z hk0
          · exact absurd z h1
          · exact z
        refine br_f h1 (ya_eo hF.2.1 hn (hQ2 _ ?_))
        rw [← ((hF.2.2.2.2 n hn).1 h2).1]
        exact y262a H.1 rfl (by decide) h
theorem op_12 (hJ : ux_J B kd ns np en ds fi ow po st pp qp pc pn pl qu m c) (hN : ux_N qu m p) (hs : st p = 1) (H : ux_in sp pn pg p s l a b 12) : ux_G (B + 1) p (nI m, nI c, ex + 1, kd, ns, np, wo, en, st, pp, sp, pc, pg, pn, rg, ds, fi, ow, po, pw, pl, qu, ou) ((nI m), ex, (nI c), go, kd, (ux_LN kd ns), wo, (ux_EN en), np, st, qp, sp, pn, pg, rg, (ux_ED ds), pc, fi, ow, po, pl, pw, qu, ou) := by
  obtain ⟨hF, hD, hO, hZ, hR, _⟩ := id hJ
  obtain ⟨⟨d, hd, ed, hd2⟩, _⟩ := (hR p H.1).2.2 (Or.inl hs)
  have cl : (nI p).toNatClampNeg = p := ux_c (by have := H.1; omega)
  have iv : vp_in (nI p) 5 := vp_in_nI H.1 (by decide)
  have c3 : (nI (p * 4 + 3)).toNatClampNeg = p * 4 + 3 := ux_c (by have := H.1; omega)
  have v3 : vp_in (nI (p * 4 + 3)) 20 := vp_in_nI (by have := H.1; omega) (by decide)
  have e34 : nI p * 4 + 3 = nI (p * 4 + 3) := by rw [ux_mul_l, ux_add_l]
  rcases ux_noye hF.2.1 hd (rg (p * 4 + a)) with hno | ⟨q, n, hye, hk0, _⟩
  · refine ux_G1 (r := 1) (go := 1) (rg := upd rg (p * 4 + 3) (-1)) (sp := upd sp p (sp p + 1)) (ex := ex + 1) (kd := kd) (ns := ns) (np := np) (wo := wo) (en := en) (st := st) (pp := pp) (pc := pc) (pg := pg) (pn := pn) (ds := ds) (fi := fi) (ow := ow) (po := po) (pw := pw) (pl := pl) (qu := qu) (ou := ou) (qp := qp) (m := m) (c := c) (fun _ h => xj_12 H (fun Q hQ => ?_)) (fun _ h => yj_12n H ed hd hno (y262a H.1 rfl (by decide) h)) (ux_J_mono hJ (by omega)) hN (Or.inr ⟨rfl, hs⟩)
    unfold wpX_executeFile
    dsimp only
    rw [cl, ed]
    refine ⟨iv, xa_fnN hd hno hF.1.1 (br_t rfl ?_)⟩
    unfold wpX_fail
    dsimp only
    rw [e34, c3]
    exact ⟨v3, nm_e (hQ _ (x634a H.1 hs (by decide) h))⟩
  · have hn := hye.2.2.2.1
    have hn0 := hye.2.2.1
    by_cases h1 : kd n = 1
    · obtain ⟨q2, hq2, eq2⟩ := (hF.2.2.2.2 n hn).2 h1
      refine ux_G1 (r := 1) (go := go) (pg := ux_cw pg wo (p * 20) (n * 20) 20) (pn := upd pn p (ns n)) (sp := upd sp p 0) (ex := ex + 1) (kd := kd) (ns := ns) (np := np) (wo := wo) (en := en) (st := st) (pp := pp) (pc := pc) (rg := rg) (ds := ds) (fi := fi) (ow := ow) (po := po) (pw := pw) (pl := pl) (qu := qu) (ou := ou) (qp := qp) (m := m) (c := c) (fun _ h => xj_12 H (fun Q hQ => ?_)) (fun _ h => yj_12y H ed hd hye h1 ?_) ?_ hN (Or.inr ⟨rfl, hs⟩)
      · unfold wpX_executeFile
        dsimp only
        rw [cl, ed]
        refine ⟨iv, xa_fnY hd hye h1 (br_f (ux_nz hn0 (by omega)) (xa_ld H.1 hn (hQ _ ?_)))⟩
        rw [ux_uu]
        exact x634a H.1 hs (by decide) h
      · rw [ux_LN_f (by rw [h1]; exact ux_n12)]
        exact h
      · rw [eq2]
        exact ux_J_mono (ux_J_pn hJ hq2) (by omega)
    · refine ux_G1 (r := 1) (go := 1) (rg := upd rg (p * 4 + 3) (-1)) (sp := upd sp p (sp p + 1)) (ex := ex + 1) (kd := kd) (ns := ns) (np := np) (wo := wo) (en := en) (st := st) (pp := pp) (pc := pc) (pg := pg) (pn := pn) (ds := ds) (fi := fi) (ow := ow) (po := po) (pw := pw) (pl := pl) (qu := qu) (ou := ou) (qp := qp) (m := m) (c := c) (fun _ h => xj_12 H (fun Q hQ => ?_)) (fun _ h => yj_12d H ed hd hye h1 (y262a H.1 rfl (by decide) h)) (ux_J_mono hJ (by omega)) hN (Or.inr ⟨rfl, hs⟩)
      unfold wpX_executeFile
      dsimp only
      rw [cl, ed]
      refine ⟨iv, xa_fnD hd hye h1 (br_t rfl ?_)⟩
      unfold wpX_fail
      dsimp only
      rw [e34, c3]
      exact ⟨v3, nm_e (hQ _ (x634a H.1 hs (by decide) h))⟩
theorem op_11 (hJ : ux_J B kd ns np en ds fi ow po st pp qp pc pn pl qu m c) (hN : ux_N qu m p) (hs : st p = 1) (H : ux_in sp pn pg p s l a b 11) : ux_G (B + 1) p (nI m, nI c, ex + 1, kd, ns, np, wo, en, st, pp, sp, pc, pg, pn, rg, ds, fi, ow, po, pw, pl, qu, ou) ((nI m), ex, (nI c), go, kd, (ux_LN kd ns), wo, (ux_EN en), np, st, qp, sp, pn, pg, rg, (ux_ED ds), pc, fi, ow, po, pl, pw, qu, ou) := by
  obtain ⟨hF, hD, hO, hZ, hR, _⟩ := id hJ
  obtain ⟨hp, hi, ho, ha, ea, hb, eb⟩ := id H
  have hq : ∀ j, j < 5 → st j ≠ 0 → pp j = qp j := fun j h1 h2 => ((hR j h1).2.1 h2).1
  have ca : (nI (p * 4 + a)).toNatClampNeg = p * 4 + a := ux_c (by omega)
  have cb : (nI (p * 4 + b)).toNatClampNeg = p * 4 + b := ux_c (by omega)
  have va : vp_in (nI (p * 4 + a)) 20 := vp_in_nI (by omega) (by decide)
  have vb : vp_in (nI (p * 4 + b)) 20 := vp_in_nI (by omega) (by decide)
  have e4 : 4 * nI p + nI a = nI (p * 4 + a) := by rw [ux_l_mul, nI_add, Nat.mul_comm]
  have f4 : 4 * nI p + nI b = nI (p * 4 + b) := by rw [ux_l_mul, nI_add, Nat.mul_comm]
  rcases ux_ls (fun c => st c = 3 ∧ pp c = nI p) 5 with ⟨k, hk, ⟨k3, kp⟩, hj⟩ | hno
  · have hkp : k ≠ p := by
      intro z; rw [z, hs] at k3; exact absurd k3 (by decide)
    have ck : (nI k).toNatClampNeg = k := ux_c (by omega)
    have vk : vp_in (nI k) 5 := vp_in_nI hk (by decide)
    refine ux_G1 (r := 1) (go := 1) (rg := upd (upd rg (p * 4 + a) (sp k)) (p * 4 + b) (nI k)) (st := upd st k 0) (sp := upd sp p (sp p + 1)) (ex := ex + 1) (kd := kd) (ns := ns) (np := np) (wo := wo) (en := en) (pp := pp) (pc := pc) (pg := pg) (pn := pn) (ds := ds) (fi := fi) (ow := ow) (po := po) (pw := pw) (pl := pl) (qu := qu) (ou := ou) (qp := qp) (m := m) (c := c) (fun _ h => xj_11 H (fun Q hQ => ?_)) (fun _ h => yj_11 H (fun Q hQ => ?_)) (ux_J_mono (ux_J_free hJ hk k3) (by omega)) hN (Or.inr ⟨rfl, by rw [ux_un (Ne.symm hkp)]; exact hs⟩)
    · unfold wpX_takeEndedChild
      refine xa_ec1 hk k3 kp hj (br_t (nI_pos' (by omega)) ⟨vk, va, ?_⟩)
      rw [ca, cb, ck, ux_un hkp]
      exact nm_e ⟨vb, nm_e ⟨vk, nm_e (hQ _ (x634a hp (by rw [ux_un (Ne.symm hkp)]; exact hs) (by decide) h))⟩⟩
    · unfold wpY_await
      refine ya_ec hp ?_
      rw [ux_ec_e 5 (by omega) k (by omega) hk k3 (by rw [← hq k hk (by rw [k3]; decide)]; exact kp) (fun j _ h2 h3 => hj j h2 ⟨h3.1, by rw [hq j (by omega) (by rw [h3.1]; decide)]; exact h3.2⟩)]
      refine br_t (nI_pos' (by omega)) ⟨vk, ?_⟩
      rw [e4, f4, ca, cb, ck]
      exact ⟨va, nm_e ⟨vb, nm_e ⟨vk, nm_e (hQ _ (y262a hp rfl (by decide) h))⟩⟩⟩
  · refine ux_G1 (r := 1) (go := 1) (rg := upd rg (p * 4 + a) (-1)) (sp := upd sp p (sp p + 1)) (ex := ex + 1) (kd := kd) (ns := ns) (np := np) (wo := wo) (en := en) (st := st) (pp := pp) (pc := pc) (pg := pg) (pn := pn) (ds := ds) (fi := fi) (ow := ow) (po := po) (pw := pw) (pl := pl) (qu := qu) (ou := ou) (qp := qp) (m := m) (c := c) (fun _ h => xj_11 H (fun Q hQ => ?_)) (fun _ h => yj_11 H (fun Q hQ => ?_)) (ux_J_mono hJ (by omega)) hN (Or.inr ⟨rfl, hs⟩)
    · unfold wpX_takeEndedChild
      refine xa_ec0 hno (br_f (by decide) ⟨va, ?_⟩)
      rw [ca]
      exact nm_e (hQ _ (x634a hp hs (by decide) h))
    · have hlt : ¬ 0 ≤ ux_ec st qp p 5 := by
        rcases ux_ls (fun c => st c ≠ 0 ∧ pp c = nI p) 5 with ⟨k, hk, ⟨k3, kp⟩, hj⟩ | hnc
        · rw [ux_ec_l 5 (by omega) (fun j _ h2 h3 h4 h5 => hno j h2 ⟨h5, by rw [hq j h2 h3]; exact h4⟩) ⟨k, by omega, hk, k3, by rw [← hq k hk k3]; exact kp⟩]
          decide
        · rw [ux_ec_n 5 (by omega) (fun j _ h2 h3 => hnc j h2 ⟨h3.1, by rw [hq j h2 h3.1]; exact h3.2⟩)]
          decide
      unfold wpY_await
      refine ya_ec hp (br_f hlt ?_)
      rw [e4, ca]
      exact ⟨va, nm_e (hQ _ (y262a hp rfl (by decide) h))⟩
end UX17
