section UX26X
variable {ql pr : Int32} {ex : Int64} {kd ns np wo en st pp sp pc pg pn rg ds fi ow po pw pl qu ou : Nat → Int32}
variable {Q : SX → Prop} {p a f o n e : Nat}
theorem ux_vb0 : vp_nar .boolean 0 = 0 := by decide
theorem ux_vb1 : vp_nar .boolean 1 = 1 := by decide
theorem xa_o148 {x : Int32} (hp : p < 5) (ha : a < 4) (hf : f < 4) (ho : o < 8) (h : Q (ql, pr, ex, kd, ns, np, wo, en, st, pp, sp, pc, pg, pn, upd rg (p * 4 + a) (nI f), upd ds (p * 4 + f) (nI (1 + o)), fi, ow, upd po o x, pw, pl, qu, ou)) : wX_open_148 Q (nI p) (nI (p * 4 + a)) (nI f) (nI o) x (nI o) ql pr ex kd ns np wo en st pp sp pc pg pn rg ds fi ow po pw pl qu ou := by
  unfold wX_open_148
  rw [show nI p * 4 + nI f = nI (p * 4 + f) by rw [ux_mul_l, nI_add], ux_c (n := o) (by omega), ux_c (n := p * 4 + f) (by omega), ux_c (n := p * 4 + a) (by omega), show 1 + nI o = nI (1 + o) from nI_add 1 o]
  exact ⟨vp_in_nI ho (by decide), nm_e ⟨vp_in_nI (by omega) (by decide), nm_e ⟨vp_in_nI (by omega) (by decide), nm_e h⟩⟩⟩
theorem xa_o101 (hp : p < 5) (ha : a < 4) (hf : f < 4) (ho : o < 8) (hn : n < 10) (he : e < 4) (h : Q (ql, pr, ex, kd, ns, np, wo, en, st, pp, sp, pc, pg, pn, upd rg (p * 4 + a) (nI f), upd ds (p * 4 + f) (nI (1 + o)), upd fi o (nI n), upd ow o (if e = 0 then 0 else 1), upd po o (if e = 3 then ns n else 0), pw, pl, qu, ou)) : wX_open_101 Q (nI p) (nI (p * 4 + a)) (nI e) (nI f) (nI o) (nI n) ql pr ex kd ns np wo en st pp sp pc pg pn rg ds fi ow po pw pl qu ou := by
  have vo : vp_in (nI o) 8 := vp_in_nI ho (by decide)
  have co : (nI o).toNatClampNeg = o := ux_c (by omega)
  have cn : (nI n).toNatClampNeg = n := ux_c (by omega)
  have hcase : e = 0 ∨ e = 1 ∨ e = 2 ∨ e = 3 := by omega
  unfold wX_open_101
  rw [co]
  refine ⟨vo, nm_e ?_⟩
  rcases hcase with z | z | z | z
  · subst z
    refine br_t rfl ⟨vo, ?_⟩
    rw [co, ux_vb0]
    exact nm_e (br_f (by decide) (xa_o148 hp ha hf ho h))
  · subst z
    refine br_f (by decide) ⟨vo, ?_⟩
    rw [co, ux_vb1]
    exact nm_e (br_f (by decide) (xa_o148 hp ha hf ho h))
  · subst z
    refine br_f (by decide) ⟨vo, ?_⟩
    rw [co, ux_vb1]
    exact nm_e (br_f (by decide) (xa_o148 hp ha hf ho h))
  · subst z
    refine br_f (by decide) ⟨vo, ?_⟩
    rw [co, ux_vb1, cn]
    exact nm_e (br_t rfl ⟨vp_in_nI hn (by decide), xa_o148 hp ha hf ho h⟩)
theorem xa_o77 (hp : p < 5) (ha : a < 4) (hf : f < 4) (ho : o < 8) (hn0 : 0 < n) (hn : n < 10) (he : e < 4) (h : Q (ql, pr, ex, kd, (if e = 2 then upd ns n 0 else ns), np, wo, en, st, pp, sp, pc, pg, pn, upd rg (p * 4 + a) (nI f), upd ds (p * 4 + f) (nI (1 + o)), upd fi o (nI n), upd ow o (if e = 0 then 0 else 1), upd po o (if e = 3 then ns n else 0), pw, pl, qu, ou)) : wX_open_77 Q (nI p) (nI (p * 4 + a)) (nI e) (nI f) (nI o) (nI n) ql pr ex kd ns np wo en st pp sp pc pg pn rg ds fi ow po pw pl qu ou := by
  unfold wX_open_77
  refine br_f (ux_nz hn0 (by omega)) ?_
  by_cases h2 : e = 2
  · subst h2
    refine br_t rfl ⟨vp_in_nI hn (by decide), ?_⟩
    rw [ux_c (n := n) (by omega)]
    exact nm_e (xa_o101 hp ha hf ho hn (by omega) h)
  · rw [if_neg h2] at h
    exact br_f (ux_ne (b := 2) h2 (by omega) (by omega)) (xa_o101 hp ha hf ho hn he h)
theorem xa_o77f (hp : p < 5) {x2 x3 x4 x5 : Int32} (h : Q (ql, pr, ex, kd, ns, np, wo, en, st, pp, sp, pc, pg, pn, upd rg (p * 4 + 3) (-1), ds, fi, ow, po, pw, pl, qu, ou)) : wX_open_77 Q (nI p) x2 x3 x4 x5 0 ql pr ex kd ns np wo en st pp sp pc pg pn rg ds fi ow po pw pl qu ou :=
  br_t rfl (xa_fail hp h)
end UX26X
section UX26Y
variable {ql pr go : Int32} {ex : Int64} {kd ns le wo en et np st qp sp pn pg rg ee ds pc fi ow po pl pw qu ou : Nat → Int32}
variable {Q : SY → Prop} {p a f o n e : Nat}
theorem ya_o192 {x : Int32} (hp : p < 5) (ha : a < 4) (hf : f < 4) (ho : o < 8) (h : Q (ql, ex, pr, go, kd, le, wo, et, np, st, qp, sp, pn, pg, upd rg (p * 4 + a) (nI f), upd ee (p * 4 + f) (nI (1 + o)), pc, fi, ow, upd po o x, pl, pw, qu, ou)) : wY_open_192 Q (nI p) (nI a) (nI f) (nI o) x (nI o) ql ex pr go kd le wo et np st qp sp pn pg rg ee pc fi ow po pl pw qu ou := by
  unfold wY_open_192
  rw [show 4 * nI p + nI f = nI (p * 4 + f) by rw [ux_l_mul, nI_add, Nat.mul_comm], show 4 * nI p + nI a = nI (p * 4 + a) by rw [ux_l_mul, nI_add, Nat.mul_comm], ux_c (n := o) (by omega), ux_c (n := p * 4 + f) (by omega), ux_c (n := p * 4 + a) (by omega), show 1 + nI o = nI (1 + o) from nI_add 1 o]
  exact ⟨vp_in_nI ho (by decide), nm_e ⟨vp_in_nI (by omega) (by decide), nm_e ⟨vp_in_nI (by omega) (by decide), nm_e h⟩⟩⟩
theorem ya_o145 (hp : p < 5) (ha : a < 4) (hf : f < 4) (ho : o < 8) (hn : n < 10) (he : e < 4) (h : Q (ql, ex, pr, go, kd, le, wo, et, np, st, qp, sp, pn, pg, upd rg (p * 4 + a) (nI f), upd ee (p * 4 + f) (nI (1 + o)), pc, upd fi o (nI n), upd ow o (if e = 0 then 0 else 1), upd po o (if e = 3 then le n else 0), pl, pw, qu, ou)) : wY_open_145 Q (nI p) (nI a) (nI e) (nI n) (nI f) (nI o) ql ex pr go kd le wo et np st qp sp pn pg rg ee pc fi ow po pl pw qu ou := by
  have vo : vp_in (nI o) 8 := vp_in_nI ho (by decide)
  have co : (nI o).toNatClampNeg = o := ux_c (by omega)
  have cn : (nI n).toNatClampNeg = n := ux_c (by omega)
  have hcase : e = 0 ∨ e = 1 ∨ e = 2 ∨ e = 3 := by omega
  unfold wY_open_145
  rw [co]
  refine ⟨vo, nm_e ?_⟩
  rcases hcase with z | z | z | z
  · subst z
    refine br_t rfl ⟨vo, ?_⟩
    rw [co]
    exact nm_e (br_f (by decide) (ya_o192 hp ha hf ho h))
  · subst z
    refine br_f (by decide) ⟨vo, ?_⟩
    rw [co]
    exact nm_e (br_f (by decide) (ya_o192 hp ha hf ho h))
  · subst z
    refine br_f (by decide) ⟨vo, ?_⟩
    rw [co]
    exact nm_e (br_f (by decide) (ya_o192 hp ha hf ho h))
  · subst z
    refine br_f (by decide) ⟨vo, ?_⟩
    rw [co, cn]
    exact nm_e (br_t rfl ⟨vp_in_nI hn (by decide), ya_o192 hp ha hf ho h⟩)
theorem ya_o132 (hp : p < 5) (ha : a < 4) (hf : f < 4) (ho : o < 8) (hn : n < 10) (he : e < 4) (h : Q (ql, ex, pr, go, kd, (if e = 2 then upd le n 0 else le), wo, et, np, st, qp, sp, pn, pg, upd rg (p * 4 + a) (nI f), upd ee (p * 4 + f) (nI (1 + o)), pc, upd fi o (nI n), upd ow o (if e = 0 then 0 else 1), upd po o (if e = 3 then le n else 0), pl, pw, qu, ou)) : wY_open_132 Q (nI p) (nI a) (nI e) (nI n) (nI f) (nI o) ql ex pr go kd le wo et np st qp sp pn pg rg ee pc fi ow po pl pw qu ou := by
  unfold wY_open_132
  by_cases h2 : e = 2
  · subst h2
    refine br_t rfl ⟨vp_in_nI hn (by decide), ?_⟩
    rw [ux_c (n := n) (by omega)]
    exact nm_e (ya_o145 hp ha hf ho hn (by omega) h)
  · rw [if_neg h2] at h
    exact br_f (ux_ne (b := 2) h2 (by omega) (by omega)) (ya_o145 hp ha hf ho hn he h)
end UX26Y
section UX26
variable {ql pr : Int32} {ex : Int64} {kd ns np wo en st pp sp pc pg pn rg ds fi ow po pw pl qu ou : Nat → Int32}
variable {qp : Nat → Int32} {go : Int32} {B p s l a b m c : Nat}
/-- OPEN fails -/
theorem op_13f (hJ : ux_J B kd ns np en ds fi ow po st pp qp pc pn pl qu m c) (hN : ux_N qu m p) (hs : st p = 1) (H : ux_in sp pn pg p s l a b 13) {d e : Nat} (hd : d < 10) (ed : pc p = nI d) (hd2 : kd d = 2) (he : e < 4) (ee : (pg (p * 20 + s) >>> ((9 : Int32) &&& 31)) &&& 3 = nI e)
    (hw : ux_nf ds p 0 ∨ (∀ j, j < 8 → ux_hd ds (nI (1 + j))) ∨ (∃ q n, ux_ye en d (rg (p * 4 + a)) q n ∧ kd n ≠ 1) ∨ (ux_no en d (rg (p * 4 + a)) ∧ (e ≠ 2 ∨ ux_NC kd en d (rg (p * 4 + a))))) : ux_G (B + 1) p (nI m, nI c, ex + 1, kd, ns, np, wo, en, st, pp, sp, pc, pg, pn, rg, ds, fi, ow, po, pw, pl, qu, ou) ((nI m), ex, (nI c), go, kd, (ux_LN kd ns), wo, (ux_EN en), np, st, qp, sp, pn, pg, rg, (ux_ED ds), pc, fi, ow, po, pl, pw, qu, ou) := by
  obtain ⟨hF, hD, hO, hZ, hR, hU, hI, hL, hB⟩ := id hJ
  obtain ⟨hp, hi, ho, ha, ea, hb, eb⟩ := id H
  have cl : (nI p).toNatClampNeg = p := ux_c (by omega)
  have iv : vp_in (nI p) 5 := vp_in_nI hp (by decide)
  have ca : (nI (p * 4 + a)).toNatClampNeg = p * 4 + a := ux_c (by omega)
  have cb : (nI (p * 4 + b)).toNatClampNeg = p * 4 + b := ux_c (by omega)
  have c3 : (nI (p * 4 + 3)).toNatClampNeg = p * 4 + 3 := ux_c (by omega)
  have va : vp_in (nI (p * 4 + a)) 20 := vp_in_nI (by omega) (by decide)
  have vb : vp_in (nI (p * 4 + b)) 20 := vp_in_nI (by omega) (by decide)
  have v3 : vp_in (nI (p * 4 + 3)) 20 := vp_in_nI (by omega) (by decide)
  have e4 : 4 * nI p + nI a = nI (p * 4 + a) := by rw [ux_l_mul, nI_add, Nat.mul_comm]
  have f4 : 4 * nI p + nI b = nI (p * 4 + b) := by rw [ux_l_mul, nI_add, Nat.mul_comm]
  have x3 : nI p * 4 + 3 = nI (p * 4 + 3) := by rw [ux_mul_l, ux_add_l]
  have y3 : 4 * nI p + 3 = nI (p * 4 + 3) := by rw [ux_l_mul, ux_add_l, Nat.mul_comm]
  refine ux_G1 (r := 1) (go := 1) (rg := upd rg (p * 4 + 3) (-1)) (sp := upd sp p (sp p + 1)) (ex := ex + 1) (kd := kd) (ns := ns) (np := np) (wo := wo) (en := en) (st := st) (pp := pp) (pc := pc) (pg := pg) (pn := pn) (ds := ds) (fi := fi) (ow := ow) (po := po) (pw := pw) (pl := pl) (qu := qu) (ou := ou) (qp := qp) (m := m) (c := c) (fun _ h => xj_13 H (fun Q hQ => ?_)) (fun _ h => yj_13 H (fun Q hQ => ?_)) (ux_J_mono hJ (by omega)) hN (Or.inr ⟨rfl, hs⟩)
  · have hX : wX_open_24 Q (nI p) (nI m) (nI c) (ex + 1) kd ns np wo en st pp (upd sp p (sp p + 1)) pc pg pn rg ds fi ow po pw pl qu ou := xa_fail hp (hQ _ (x634a hp hs (by decide) h))
    have hX2 := hQ (nI m, nI c, ex + 1, kd, ns, np, wo, en, st, pp, upd sp p (sp p + 1), pc, pg, pn, upd rg (p * 4 + 3) (-1), ds, fi, ow, po, pw, pl, qu, ou) (x634a hp hs (by decide) h)
    rw [ee]
    unfold wpX_open
    dsimp only
    rw [cl, ca, ed]
    have hO : ∀ P : Int32 → Prop, (∀ o, o < 8 → ¬ (∀ j, j < 8 → ux_hd ds (nI (1 + j))) → P (nI o)) → ((∀ j, j < 8 → ux_hd ds (nI (1 + j))) → P (-1)) → wpX_freeOpening P (nI m, nI c, ex + 1, kd, ns, np, wo, en, st, pp, upd sp p (sp p + 1), pc, pg, pn, rg, ds, fi, ow, po, pw, pl, qu, ou) := by
      intro P h1 h2
      rcases ux_ls (fun o => ¬ ux_hd ds (nI (1 + o))) 8 with ⟨o, ho8, hoo, hoj⟩ | hno
      · exact xa_fo ho8 hoo (fun j hj => Classical.not_not.mp (hoj j hj)) (h1 o ho8 (fun z => hoo (z o ho8)))
      · exact xa_fo0 (fun j hj => Classical.not_not.mp (hno j hj)) (h2 (fun j hj => Classical.not_not.mp (hno j hj)))
    rcases ux_fdnf ds p 0 (by omega) with ⟨f, hf⟩ | hf
    · have hf4 := hf.2.1
      refine xa_nd (a := 0) hp hf (hO _ (fun o ho8 hne => br_f (nI_pos (by omega)) (br_t (nI_pos' (by omega)) ⟨iv, va, ?_⟩)) (fun _ => br_f (nI_pos (by omega)) (br_f (by decide) hX)))
      rcases hw with z | z | ⟨q, n, hye, hk⟩ | ⟨hno, hw⟩
      · exact absurd hf.2.2.1 (z.2 f (by omega) hf4)
      · exact absurd z hne
      · refine xa_fnD hd hye hk (br_t rfl ?_)
        by_cases h2 : e = 2
        · subst h2
          refine br_t rfl ⟨iv, va, ?_⟩
          refine xa_mk0 hF hd hd2 (Or.inr ⟨q, hye.1, hye.2.1, Or.inl ?_⟩) (xa_o77f hp hX2)
          rw [hye.2.2.2.2]; exact ux_nz hye.2.2.1 (by have := hye.2.2.2.1; omega)
        · exact br_f (ux_ne (b := 2) h2 (by omega) (by omega)) (xa_o77f hp hX2)
      · refine xa_fnN hd hno hF.1.1 (br_t rfl ?_)
        by_cases h2 : e = 2
        · subst h2
          refine br_t rfl ⟨iv, va, ?_⟩
          rcases hw with hw | hw
          · exact absurd rfl hw
          · exact xa_mk0 hF hd hd2 hw (xa_o77f hp hX2)
        · exact br_f (ux_ne (b := 2) h2 (by omega) (by omega)) (xa_o77f hp hX2)
    · exact xa_nd0 (a := 0) hp hf (hO _ (fun o ho8 hne => br_t (by decide) hX) (fun _ => br_t (by decide) hX))
  · have hX : wY_open_106 Q (nI p) (nI m) (ex + 1) (nI c) 1 kd (ux_LN kd ns) wo (ux_EN en) np st qp sp pn pg rg (ux_ED ds) pc fi ow po pl pw qu ou := ya_fail hp (hQ _ (y262a hp rfl (by decide) h))
    have hO : ∀ P : Int32 → Prop, (∀ o, o < 8 → ¬ (∀ j, j < 8 → ux_hd ds (nI (1 + j))) → P (nI o)) → ((∀ j, j < 8 → ux_hd ds (nI (1 + j))) → P (-1)) → wpY_smallestOpening P ((nI m), (ex + 1), (nI c), 1, kd, (ux_LN kd ns), wo, (ux_EN en), np, st, qp, sp, pn, pg, rg, (ux_ED ds), pc, fi, ow, po, pl, pw, qu, ou) := by
      intro P h1 h2
      rcases ux_ls (fun o => ¬ ux_hd ds (nI (1 + o))) 8 with ⟨o, ho8, hoo, hoj⟩ | hno
      · exact ya_fo hD ho8 hoo (fun j hj => Classical.not_not.mp (hoj j hj)) (h1 o ho8 (fun z => hoo (z o ho8)))
      · exact ya_fo0 hD (fun j hj => Classical.not_not.mp (hno j hj)) (h2 (fun j hj => Classical.not_not.mp (hno j hj)))
    have hDn : ∀ P : Int32 → Prop, (∀ f, f < 4 → ¬ ux_nf ds p 0 → P (nI f)) → (ux_nf ds p 0 → P (-1)) → wpY_newDescriptor P ((nI m), (ex + 1), (nI c), 1, kd, (ux_LN kd ns), wo, (ux_EN en), np, st, qp, sp, pn, pg, rg, (ux_ED ds), pc, fi, ow, po, pl, pw, qu, ou) (nI p) 0 := by
      intro P h1 h2
      rcases ux_fdnf ds p 0 (by omega) with ⟨f, hf⟩ | hf
      · exact ya_nd (a := 0) hD hp hf (h1 f hf.2.1 (fun z => absurd hf.2.2.1 (z.2 f (by omega) hf.2.1)))
      · exact ya_nd0 (a := 0) hD hp hf (h2 hf)
    have h89 : ∀ x5 z0 : Int32, ∀ f o : Nat, f < 4 → o < 8 → z0 = 0 → wY_open_89 Q (nI p) (nI a) (nI e) (rg (p * 4 + a)) x5 (nI f) (nI o) z0 (nI m) (ex + 1) (nI c) 1 kd (ux_LN kd ns) wo (ux_EN en) np st qp sp pn pg rg (ux_ED ds) pc fi ow po pl pw qu ou := by
      intro x5 z0 f o _ _ hz
      exact br_t hz hX
    have h89f : ∀ x5 x7 z0 : Int32, wY_open_89 Q (nI p) (nI a) (nI e) (rg (p * 4 + a)) x5 (-1) x7 z0 (nI m) (ex + 1) (nI c) 1 kd (ux_LN kd ns) wo (ux_EN en) np st qp sp pn pg rg (ux_ED ds) pc fi ow po pl pw qu ou := by
      intro x5 x7 z0
      by_cases hz : z0 = 0
      · exact br_t hz hX
      · exact br_f hz (br_t (by decide) hX)
    have h89o : ∀ x5 x6 z0 : Int32, wY_open_89 Q (nI p) (nI a) (nI e) (rg (p * 4 + a)) x5 x6 (-1) z0 (nI m) (ex + 1) (nI c) 1 kd (ux_LN kd ns) wo (ux_EN en) np st qp sp pn pg rg (ux_ED ds) pc fi ow po pl pw qu ou := by
      intro x5 x6 z0
      by_cases hz : z0 = 0
      · exact br_t hz hX
      · refine br_f hz ?_
        by_cases h6 : x6 < 0
        · exact br_t h6 hX
        · exact br_f h6 (br_f (by decide) hX)
    have hCE : ∀ P : Int32 → Prop, (ux_NC kd en d (rg (p * 4 + a)) → P 0) → (¬ ux_NC kd en d (rg (p * 4 + a)) → P 1) → wpY_canEnter P ((nI m), (ex + 1), (nI c), 1, kd, (ux_LN kd ns), wo, (ux_EN en), np, st, qp, sp, pn, pg, rg, (ux_ED ds), pc, fi, ow, po, pl, pw, qu, ou) (nI d) (rg (p * 4 + a)) := by
      intro P h1 h2
      by_cases hc : ux_NC kd en d (rg (p * 4 + a))
      · exact ya_ce0 hF.2.1 hd hc (h1 hc)
      · rcases ux_CEN hF d (rg (p * 4 + a)) with ⟨q, n, hc2⟩ | hc2
        · exact ya_ce1 hF.2.1 hd hc2 (h2 hc)
        · exact absurd hc2 hc
    rw [ee]
    unfold wpY_open
    dsimp only
    rw [e4, ca, cl, ed]
    refine ⟨va, nm_e ⟨iv, ?_⟩⟩
    rcases ux_noye hF.2.1 hd (rg (p * 4 + a)) with hno | ⟨q, n, hye, hk0, _⟩
    · have tail : ∀ x6 x7 : Int32, (¬ (e ≠ 2 ∨ ux_NC kd en d (rg (p * 4 + a))) → ∀ z0, wY_open_89 Q (nI p) (nI a) (nI e) (rg (p * 4 + a)) (-1) x6 x7 z0 (nI m) (ex + 1) (nI c) 1 kd (ux_LN kd ns) wo (ux_EN en) np st qp sp pn pg rg (ux_ED ds) pc fi ow po pl pw qu ou) →
          (((-1 : Int32) < 0 → ((nI e = 2 → (vp_in (nI p) 5 ∧ wpY_canEnter (fun r => ((r = 0 → wY_open_88 Q (nI p) (nI a) (nI e) (rg (p * 4 + a)) (-1) x6 x7 (nI m) (ex + 1) (nI c) 1 kd (ux_LN kd ns) wo (ux_EN en) np st qp sp pn pg rg (ux_ED ds) pc fi ow po pl pw qu ou) ∧ (¬ r = 0 → wY_open_89 Q (nI p) (nI a) (nI e) (rg (p * 4 + a)) (-1) x6 x7 1 (nI m) (ex + 1) (nI c) 1 kd (ux_LN kd ns) wo (ux_EN en) np st qp sp pn pg rg (ux_ED ds) pc fi ow po pl pw qu ou))) ((nI m), (ex + 1), (nI c), 1, kd, (ux_LN kd ns), wo, (ux_EN en), np, st, qp, sp, pn, pg, rg, (ux_ED ds), pc, fi, ow, po, pl, pw, qu, ou) (nI d) (rg (p * 4 + a)))) ∧ (¬ nI e = 2 → wY_open_88 Q (nI p) (nI a) (nI e) (rg (p * 4 + a)) (-1) x6 x7 (nI m) (ex + 1) (nI c) 1 kd (ux_LN kd ns) wo (ux_EN en) np st qp sp pn pg rg (ux_ED ds) pc fi ow po pl pw qu ou))) ∧ (¬ (-1 : Int32) < 0 → (vp_in (-1) 10 ∧ ((kd (-1 : Int32).toNatClampNeg = 1 → wY_open_89 Q (nI p) (nI a) (nI e) (rg (p * 4 + a)) (-1) x6 x7 1 (nI m) (ex + 1) (nI c) 1 kd (ux_LN kd ns) wo (ux_EN en) np st qp sp pn pg rg (ux_ED ds) pc fi ow po pl pw qu ou) ∧ (¬ kd (-1 : Int32).toNatClampNeg = 1 → wY_open_89 Q (nI p) (nI a) (nI e) (rg (p * 4 + a)) (-1) x6 x7 0 (nI m) (ex + 1) (nI c) 1 kd (ux_LN kd ns) wo (ux_EN en) np st qp sp pn pg rg (ux_ED ds) pc fi ow po pl pw qu ou))))) := by
        intro x6 x7 hx
        refine br_t (by decide) ?_
        by_cases h2 : e = 2
        · subst h2
          refine br_t rfl ⟨iv, hCE _ (fun _ => br_t rfl (br_t rfl hX)) (fun hc => br_f (by decide) (hx ?_ 1))⟩
          intro z
          rcases z with z | z
          · exact z rfl
          · exact hc z
        · exact br_f (ux_ne (b := 2) h2 (by omega) (by omega)) (br_t rfl hX)
      refine ya_nmN hd hno (hDn _ (fun f hf hnf => hO _ (fun o ho8 hne => ?_) (fun _ => ?_)) (fun _ => hO _ (fun o ho8 hne => ?_) (fun _ => ?_)))
      · refine tail _ _ (fun hz => ?_)
        exfalso
        rcases hw with z | z | ⟨q, n, hye, hk⟩ | ⟨_, z⟩
        · exact hnf z
        · exact hne z
        · rcases hno with ⟨q2, g1, g2, g3⟩ | hr
          · have e1 := hye.2.1
            rw [g2] at e1
            have e2 := ux_inj e1 (by omega) (by have := hye.1; omega)
            have e3 := hye.2.2.2.2
            rw [← e2, g3] at e3
            exact ux_nz hye.2.2.1 (by have := hye.2.2.2.1; omega) e3.symm
          · have e1 := hye.2.1
            have h15 := hye.1
            rw [e1] at hr
            rcases hr with hr | ⟨_, hr⟩
            · exact nI_pos (by omega) hr
            · exact nI_ge h15 (by omega) hr
        · exact hz z
      · exact tail _ _ (fun _ z0 => h89o _ _ z0)
      · exact tail _ _ (fun _ z0 => h89f _ _ z0)
      · exact tail _ _ (fun _ z0 => h89f _ _ z0)
    · have hn := hye.2.2.2.1
      have cn : (nI n).toNatClampNeg = n := ux_c (by omega)
      have vn : vp_in (nI n) 10 := vp_in_nI hn (by decide)
      refine ya_nmY hd hye (hDn _ (fun f hf hnf => hO _ (fun o ho8 hne => br_f (nI_pos (by omega)) ⟨vn, ?_⟩) (fun _ => br_f (nI_pos (by omega)) ⟨vn, ?_⟩)) (fun _ => hO _ (fun o ho8 hne => br_f (nI_pos (by omega)) ⟨vn, ?_⟩) (fun _ => br_f (nI_pos (by omega)) ⟨vn, ?_⟩)))
      · rw [cn]
        by_cases h1 : kd n = 1
        · exfalso
          rcases hw with z | z | ⟨q2, n2, hye2, hk⟩ | ⟨hno, _⟩
          · exact hnf z
          · exact hne z
          · have e1 := hye2.2.1
            rw [hye.2.1] at e1
            have e2 := ux_inj e1 (by have := hye.1; omega) (by have := hye2.1; omega)
            have e3 := hye2.2.2.2.2
            rw [← e2, hye.2.2.2.2] at e3
            have e4' := ux_inj e3 (by omega) (by have := hye2.2.2.2.1; omega)
            exact hk (by rw [← e4']; exact h1)
          · rcases hno with ⟨q2, g1, g2, g3⟩ | hr
            · have e1 := hye.2.1
              rw [g2] at e1
              have e2 := ux_inj e1 (by omega) (by have := hye.1; omega)
              have e3 := hye.2.2.2.2
              rw [← e2, g3] at e3
              exact ux_nz hye.2.2.1 (by omega) e3.symm
            · have e1 := hye.2.1
              have h15 := hye.1
              rw [e1] at hr
              rcases hr with hr | ⟨_, hr⟩
              · exact nI_pos (by omega) hr
              · exact nI_ge h15 (by omega) hr
        · exact br_f h1 (br_t rfl hX)
      · exact br_c (fun _ => h89o _ _ _) (fun _ => h89o _ _ _)
      · exact br_c (fun _ => h89f _ _ _) (fun _ => h89f _ _ _)
      · exact br_c (fun _ => h89f _ _ _) (fun _ => h89f _ _ _)
theorem op_13 (hJ : ux_J B kd ns np en ds fi ow po st pp qp pc pn pl qu m c) (hN : ux_N qu m p) (hs : st p = 1) (H : ux_in sp pn pg p s l a b 13) : ux_G (B + 1) p (nI m, nI c, ex + 1, kd, ns, np, wo, en, st, pp, sp, pc, pg, pn, rg, ds, fi, ow, po, pw, pl, qu, ou) ((nI m), ex, (nI c), go, kd, (ux_LN kd ns), wo, (ux_EN en), np, st, qp, sp, pn, pg, rg, (ux_ED ds), pc, fi, ow, po, pl, pw, qu, ou) := by
  obtain ⟨hF, hD, hO, hZ, hR, hU, hI, hL, hB⟩ := id hJ
  obtain ⟨hp, hi, ho, ha, ea, hb, eb⟩ := id H
  have cl : (nI p).toNatClampNeg = p := ux_c (by omega)
  have iv : vp_in (nI p) 5 := vp_in_nI hp (by decide)
  have ca : (nI (p * 4 + a)).toNatClampNeg = p * 4 + a := ux_c (by omega)
  have cb : (nI (p * 4 + b)).toNatClampNeg = p * 4 + b := ux_c (by omega)
  have c3 : (nI (p * 4 + 3)).toNatClampNeg = p * 4 + 3 := ux_c (by omega)
  have va : vp_in (nI (p * 4 + a)) 20 := vp_in_nI (by omega) (by decide)
  have vb : vp_in (nI (p * 4 + b)) 20 := vp_in_nI (by omega) (by decide)
  have v3 : vp_in (nI (p * 4 + 3)) 20 := vp_in_nI (by omega) (by decide)
  have e4 : 4 * nI p + nI a = nI (p * 4 + a) := by rw [ux_l_mul, nI_add, Nat.mul_comm]
  have f4 : 4 * nI p + nI b = nI (p * 4 + b) := by rw [ux_l_mul, nI_add, Nat.mul_comm]
  have x3 : nI p * 4 + 3 = nI (p * 4 + 3) := by rw [ux_mul_l, ux_add_l]
  have y3 : 4 * nI p + 3 = nI (p * 4 + 3) := by rw [ux_l_mul, ux_add_l, Nat.mul_comm]
  obtain ⟨⟨d, hd, ed, hd2⟩, _⟩ := (hR p hp).2.2 (Or.inl hs)
  obtain ⟨e, he, ee⟩ := ux_b2 (pg (p * 20 + s) >>> ((9 : Int32) &&& 31))
  have eS := ((hF.2.2.2.2 d hd).1 hd2).1
  rcases ux_fdnf ds p 0 (by omega) with ⟨f, hf⟩ | hf
  · rcases ux_ls (fun o => ¬ ux_hd ds (nI (1 + o))) 8 with ⟨o, ho8, hoo, hoj⟩ | hno
    · have hoj2 : ∀ j, j < o → ux_hd ds (nI (1 + j)) := fun j hj => Classical.not_not.mp (hoj j hj)
      have hoo2 : ∀ j, j < 20 → ds j ≠ nI (1 + o) := fun j hj z => hoo ⟨j, hj, z⟩
      have hf4 := hf.2.1
      rcases ux_noye hF.2.1 hd (rg (p * 4 + a)) with hno | ⟨q, n, hye, hk0, _⟩
      · by_cases h2 : e = 2
        · rcases ux_CEN hF d (rg (p * 4 + a)) with ⟨q, n, hc⟩ | hc
          · subst h2
            obtain ⟨h1, h2, h3, h4, h5, h6, h7, h8⟩ := id hc
            have hdn : d ≠ n := ux_nd hd2 (by rw [h6]; exact ux_n02)
            refine ux_G1 (r := 1) (go := 1) (kd := upd kd n 1) (ns := upd (upd (upd ns n 0) d (upd ns n 0 d + 1)) n 0) (np := upd np n (nI d)) (en := upd en (d * 15 + q) (nI n)) (fi := upd fi o (nI n)) (ow := upd ow o 1) (po := upd po o 0) (ds := upd ds (p * 4 + f) (nI (1 + o))) (rg := upd rg (p * 4 + a) (nI f)) (sp := upd sp p (sp p + 1)) (ex := ex + 1) (wo := wo) (st := st) (pp := pp) (pc := pc) (pg := pg) (pn := pn) (pw := pw) (pl := pl) (qu := qu) (ou := ou) (qp := qp) (m := m) (c := c) (fun _ h => xj_13 H (fun Q hQ => ?_)) (fun _ h => yj_13 H (fun Q hQ => ?_)) (ux_J_mono (ux_J_opn (q := 0) (ux_J_ns (q := 0) (ux_J_new hJ h4 h5 h6 hd hd2 h1 h3 h8 (Or.inl rfl)) ux_us (by omega)) hp hs hf4 hf.2.2.1 ho8 hoo2 h4 h5 ux_us (Or.inr rfl) (by omega)) (by omega)) hN (Or.inr ⟨rfl, hs⟩)
            · rw [ee]
              unfold wpX_open
              dsimp only
              rw [cl, ca, ed]
              exact xa_nd (a := 0) hp hf (xa_fo ho8 hoo hoj2 (br_f (nI_pos (by omega)) (br_t (nI_pos' (by omega)) ⟨iv, va, xa_fnN hd hno hF.1.1 (br_t rfl (br_t rfl ⟨iv, va, xa_mk1 hd eS hc (xa_o77 hp ha hf4 ho8 h4 h5 (by omega) (hQ _ (x634a hp hs (by decide) h)))⟩))⟩)))
            · rw [ux_LN_u (by rw [ux_us]; exact ux_n12), ux_LN_new (by rw [h6]; exact ux_n02) hd2, ux_ED_u, ux_cvo o ho8] at h
              rw [ee]
              unfold wpY_open
              dsimp only
              rw [e4, ca, cl, ed]
              refine ⟨va, nm_e ⟨iv, ya_nmN hd hno (ya_nd (a := 0) hD hp hf (ya_fo hD ho8 hoo hoj2 (br_t (by decide) (br_t rfl ⟨iv, ya_ce1 hF.2.1 hd hc (br_f (by decide) (br_f (by decide) (br_f (nI_pos (by omega)) (br_t (nI_pos' (by omega)) (br_f (by decide) ⟨iv, ?_⟩)))))⟩))))⟩⟩
              rw [cl, ed]
              exact ya_nw hF.2.1 hd hc (ya_o132 hp ha hf4 ho8 h5 (by omega) (hQ _ (y262a hp rfl (by decide) h)))
          · exact op_13f hJ hN hs H hd ed hd2 he ee (Or.inr (Or.inr (Or.inr ⟨hno, Or.inr hc⟩)))
        · exact op_13f hJ hN hs H hd ed hd2 he ee (Or.inr (Or.inr (Or.inr ⟨hno, Or.inl h2⟩)))
      · by_cases h1 : kd n = 1
        · have hn := hye.2.2.2.1
          have hn0 := hye.2.2.1
          have cn : (nI n).toNatClampNeg = n := ux_c (by omega)
          have vn : vp_in (nI n) 10 := vp_in_nI hn (by decide)
          obtain ⟨g, hg, eg⟩ := (hF.2.2.2.2 n hn).2 h1
          have eL : ux_LN kd ns n = ns n := ux_LN_f (by rw [h1]; exact ux_n12)
          have eLN : ux_LN kd (if e = 2 then upd ns n 0 else ns) = if e = 2 then upd (ux_LN kd ns) n 0 else ux_LN kd ns := by
            by_cases h2 : e = 2
            · rw [if_pos h2, if_pos h2]; exact ux_LN_u (by rw [h1]; exact ux_n12)
            · rw [if_neg h2, if_neg h2]
          refine ux_G1 (r := 1) (go := 1) (ns := (if e = 2 then upd ns n 0 else ns)) (fi := upd fi o (nI n)) (ow := upd ow o (if e = 0 then 0 else 1)) (po := upd po o (if e = 3 then ns n else 0)) (ds := upd ds (p * 4 + f) (nI (1 + o))) (rg := upd rg (p * 4 + a) (nI f)) (sp := upd sp p (sp p + 1)) (ex := ex + 1) (kd := kd) (np := np) (wo := wo) (en := en) (st := st) (pp := pp) (pc := pc) (pg := pg) (pn := pn) (pw := pw) (pl := pl) (qu := qu) (ou := ou) (qp := qp) (m := m) (c := c) (fun _ h => xj_13 H (fun Q hQ => ?_)) (fun _ h => yj_13 H (fun Q hQ => ?_)) ?_ hN (Or.inr ⟨rfl, hs⟩)
          · rw [ee]
            unfold wpX_open
            dsimp only
            rw [cl, ca, ed]
            exact xa_nd (a := 0) hp hf (xa_fo ho8 hoo hoj2 (br_f (nI_pos (by omega)) (br_t (nI_pos' (by omega)) ⟨iv, va, xa_fnY hd hye h1 (br_f (ux_nz hn0 (by omega)) (xa_o77 hp ha hf4 ho8 hn0 hn he (hQ _ (x634a hp hs (by decide) h))))⟩)))
          · rw [eLN, ux_ED_u, ux_cvo o ho8, ← eL] at h
            rw [ee]
            unfold wpY_open
            dsimp only
            rw [e4, ca, cl, ed]
            exact ⟨va, nm_e ⟨iv, ya_nmY hd hye (ya_nd (a := 0) hD hp hf (ya_fo hD ho8 hoo hoj2 (br_f (nI_pos (by omega)) ⟨vn, br_t (by rw [cn]; exact h1) (br_f (by decide) (br_f (nI_pos (by omega)) (br_t (nI_pos' (by omega)) (br_t (nI_pos' (by omega)) (ya_o132 hp ha hf4 ho8 hn he (hQ _ (y262a hp rfl (by decide) h)))))))⟩)))⟩⟩
          · have epo : (if e = 3 then ns n else 0) = nI (if e = 3 then g else 0) := by
              by_cases h3 : e = 3
              · rw [if_pos h3, if_pos h3]; exact eg
              · rw [if_neg h3, if_neg h3]; rfl
            have hq : (if e = 3 then g else 0) ≤ 20 := by
              by_cases h3 : e = 3
              · rw [if_pos h3]; exact hg
              · rw [if_neg h3]; omega
            have hw : (if e = 0 then (0 : Int32) else 1) = 0 ∨ (if e = 0 then (0 : Int32) else 1) = 1 := by
              by_cases h3 : e = 0
              · exact Or.inl (if_pos h3)
              · exact Or.inr (if_neg h3)
            rw [epo]
            by_cases h2 : e = 2
            · rw [if_pos h2]
              exact ux_J_mono (ux_J_opn (ux_J_ns (q := 0) hJ h1 (by omega)) hp hs hf4 hf.2.2.1 ho8 hoo2 hn0 hn h1 hw hq) (by omega)
            · rw [if_neg h2]
              exact ux_J_mono (ux_J_opn hJ hp hs hf4 hf.2.2.1 ho8 hoo2 hn0 hn h1 hw hq) (by omega)
        · exact op_13f hJ hN hs H hd ed hd2 he ee (Or.inr (Or.inr (Or.inl ⟨q, n, hye, h1⟩)))
    · exact op_13f hJ hN hs H hd ed hd2 he ee (Or.inr (Or.inl (fun j hj => Classical.not_not.mp (hno j hj))))
  · exact op_13f hJ hN hs H hd ed hd2 he ee (Or.inl hf)
end UX26
