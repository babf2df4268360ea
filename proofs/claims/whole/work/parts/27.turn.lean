section UX27
variable {ql pr : Int32} {ex : Int64} {kd ns np wo en st pp sp pc pg pn rg ds fi ow po pw pl qu ou : Nat → Int32}
variable {qp : Nat → Int32} {go : Int32} {B p s l a b m c : Nat}
theorem ux_ex (hJ : ux_J B kd ns np en ds fi ow po st pp qp pc pn pl qu m c) (hN : ux_N qu m p) (hs : st p = 1) (hp : p < 5) (hB : B < 1000000) (hnw : ∀ s l, ux_ip sp pn p s l → ux_NW pg rg ds pl p s) : ux_G (B + 1) p (nI m, nI c, ex + 1, kd, ns, np, wo, en, st, pp, sp, pc, pg, pn, rg, ds, fi, ow, po, pw, pl, qu, ou) ((nI m), ex, (nI c), go, kd, (ux_LN kd ns), wo, (ux_EN en), np, st, qp, sp, pn, pg, rg, (ux_ED ds), pc, fi, ow, po, pl, pw, qu, ou) := by
  have hR := hJ.2.2.2.2.1
  obtain ⟨_, l, hl, el⟩ := (hR p hp).2.2 (Or.inl hs)
  rcases ux_ipup (sp := sp) hl el with ⟨s, hi⟩ | hu
  · obtain ⟨a, ha, ea⟩ := ux_b2 (pg (p * 20 + s) >>> ((5 : Int32) &&& 31))
    obtain ⟨b, hb, eb⟩ := ux_b2 (pg (p * 20 + s) >>> ((7 : Int32) &&& 31))
    obtain ⟨o, ho, eo⟩ := ux_b5 (pg (p * 20 + s))
    have H : ux_in sp pn pg p s l a b (nI o) := ⟨hp, hi, eo, ha, ea, hb, eb⟩
    have hcs : o = 0 ∨ o = 1 ∨ o = 2 ∨ o = 3 ∨ o = 4 ∨ o = 5 ∨ o = 6 ∨ o = 7 ∨ o = 8 ∨ o = 9 ∨ o = 10 ∨ o = 11 ∨ o = 12 ∨ o = 13 ∨ o = 14 ∨ o = 15 ∨ o = 16 ∨ o = 17 ∨ o = 18 ∨ o = 19 ∨ o = 20 ∨ o = 21 ∨ o = 22 ∨ o = 23 ∨ o = 24 ∨ o = 25 ∨ o = 26 ∨ o = 27 ∨ o = 28 ∨ o = 29 ∨ o = 30 ∨ o = 31 := by omega
    rcases hcs with z | z | z | z | z | z | z | z | z | z | z | z | z | z | z | z | z | z | z | z | z | z | z | z | z | z | z | z | z | z | z | z
    · subst z
      exact op_0 hJ hN hs H
    · subst z
      exact op_1 hJ hN hs H
    · subst z
      exact op_2 hJ hN hs H
    · subst z
      exact op_3 hJ hN hs H
    · subst z
      exact op_4 hJ hN hs H
    · subst z
      exact op_5 hJ hN hs H
    · subst z
      exact op_6 hJ hN hs H
    · subst z
      exact op_7 hJ hN hs H
    · subst z
      exact op_8 hJ hN hs H
    · subst z
      exact op_9 hJ hN hs H
    · subst z
      exact op_10 hJ hN hs H
    · subst z
      exact op_11 hJ hN hs H
    · subst z
      exact op_12 hJ hN hs H
    · subst z
      exact op_13 hJ hN hs H
    · subst z
      exact op_14 hJ hN hs H
    · subst z
      exact op_15 hJ hN hs H
    · subst z
      exact op_16 hJ hN hs H (hnw s l hi)
    · subst z
      exact op_17 hJ hN hs H
    · subst z
      exact op_18 hJ hN hs H
    · subst z
      exact op_19 hJ hN hs H
    · subst z
      exact op_20 hJ hN hs H
    · subst z
      exact op_21 hJ hN hs H
    · subst z
      exact op_22 hJ hN hs H
    · subst z
      exact op_23 hJ hN hs H
    · subst z
      exact op_24 hJ hN hs H hB
    · subst z
      exact op_25 hJ hN hs H
    · subst z
      exact op_26 hJ hN hs H
    · subst z
      exact op_27 hJ hN hs H
    · subst z
      exact op_28 hJ hN hs H
    · subst z
      exact op_29 hJ hN hs H
    · subst z
      exact op_30 hJ hN hs H
    · subst z
      exact op_31 hJ hN hs H
  · exact op_out hJ hN hs hp hu
/-- the states between turns -/
def ux_A (B : Nat) (u : SX) (v : SY) : Prop := ∃ (ex : Int64) (kd ns np wo en st pp sp pc pg pn rg ds fi ow po pw pl qu ou qp : Nat → Int32) (go : Int32) (m c : Nat),
  u = (nI m, nI c, ex, kd, ns, np, wo, en, st, pp, sp, pc, pg, pn, rg, ds, fi, ow, po, pw, pl, qu, ou) ∧ v = ((nI m), ex, (nI c), go, kd, (ux_LN kd ns), wo, (ux_EN en), np, st, qp, sp, pn, pg, rg, (ux_ED ds), pc, fi, ow, po, pl, pw, qu, ou) ∧ ux_J B kd ns np en ds fi ow po st pp qp pc pn pl qu m c
theorem ux_Ai (hJ : ux_J B kd ns np en ds fi ow po st pp qp pc pn pl qu m c) : ux_A B (nI m, nI c, ex, kd, ns, np, wo, en, st, pp, sp, pc, pg, pn, rg, ds, fi, ow, po, pw, pl, qu, ou) ((nI m), ex, (nI c), go, kd, (ux_LN kd ns), wo, (ux_EN en), np, st, qp, sp, pn, pg, rg, (ux_ED ds), pc, fi, ow, po, pl, pw, qu, ou) :=
  ⟨ex, kd, ns, np, wo, en, st, pp, sp, pc, pg, pn, rg, ds, fi, ow, po, pw, pl, qu, ou, qp, go, m, c, rfl, rfl, hJ⟩
theorem ux_A_mono {u : SX} {v : SY} {C : Nat} (h : ux_A B u v) (hB : B ≤ C) : ux_A C u v := by
  obtain ⟨ex, kd, ns, np, wo, en, st, pp, sp, pc, pg, pn, rg, ds, fi, ow, po, pw, pl, qu, ou, qp, go, m, c, h1, h2, hJ⟩ := h
  exact ⟨ex, kd, ns, np, wo, en, st, pp, sp, pc, pg, pn, rg, ds, fi, ow, po, pw, pl, qu, ou, qp, go, m, c, h1, h2, ux_J_mono hJ hB⟩
/-- the end of a turn -/
theorem ux_fin (hp : p < 5) (hJ : ux_J B kd ns np en ds fi ow po st pp qp pc pn pl qu m c) (hN : ux_N qu m p) : ∃ u v, ux_A B u v ∧ (∀ post : SX → Prop, post u → wX_takeTurn_71 post (nI p) (nI m) (nI c) ex kd ns np wo en st pp sp pc pg pn rg ds fi ow po pw pl qu ou) ∧ (∀ post : SY → Prop, post v → wY_turn_53 post (nI p) (nI m) ex (nI c) go kd (ux_LN kd ns) wo (ux_EN en) np st qp sp pn pg rg (ux_ED ds) pc fi ow po pl pw qu ou) := by
  have cl : (nI p).toNatClampNeg = p := ux_c (by omega)
  have iv : vp_in (nI p) 5 := vp_in_nI hp (by decide)
  by_cases hs : st p = 1
  · obtain ⟨hm, hJ2⟩ := ux_J_join hJ hp hs hN
    refine ⟨_, _, ux_Ai (ex := ex) (wo := wo) (sp := sp) (pg := pg) (rg := rg) (pw := pw) (ou := ou) (go := go) hJ2, fun post h => ?_, fun post h => ?_⟩
    · unfold wX_takeTurn_71
      rw [cl]
      exact ⟨iv, br_t hs (xa_jq hp hm h)⟩
    · unfold wY_turn_53
      rw [cl]
      refine ⟨iv, br_t hs (ya_jq hp (by omega) ?_)⟩
      rw [ux_ue hs]
      exact h
  · refine ⟨_, _, ux_Ai (ex := ex) (wo := wo) (sp := sp) (pg := pg) (rg := rg) (pw := pw) (ou := ou) (go := go) hJ, fun post h => ?_, fun post h => ?_⟩
    · unfold wX_takeTurn_71
      rw [cl]
      exact ⟨iv, br_f hs h⟩
    · unfold wY_turn_53
      rw [cl]
      exact ⟨iv, br_f hs h⟩
theorem ux_tl (hp : p < 5) : ∀ t i B r u v, i + t = 3 → B + t < 1000000 → ux_T B p r u v → ∃ u2 v2, ux_A (B + t) u2 v2 ∧ (∀ post : SX → Prop, post u2 → match u with | (ql, pr, ex, kd, ns, np, wo, en, st, pp, sp, pc, pg, pn, rg, ds, fi, ow, po, pw, pl, qu, ou) => wX_takeTurn_16 post (nI p) (t + 1) r (nI i) ql pr ex kd ns np wo en st pp sp pc pg pn rg ds fi ow po pw pl qu ou) ∧ (∀ post : SY → Prop, post v2 → match v with | (ql, ex, pr, go, kd, ns, wo, en, np, st, qp, sp, pn, pg, rg, ds, pc, fi, ow, po, pl, pw, qu, ou) => wY_turn_16 post (nI p) (t + 1) r (nI i) ql ex pr go kd ns wo en np st qp sp pn pg rg ds pc fi ow po pl pw qu ou) := by
  intro t
  induction t with
  | zero =>
    intro i B r u v hi hB hT
    obtain ⟨ex, kd, ns, np, wo, en, st, pp, sp, pc, pg, pn, rg, ds, fi, ow, po, pw, pl, qu, ou, qp, go, m, c, rfl, rfl, hJ, hN, hr⟩ := hT
    obtain ⟨u2, v2, hA, h1, h2⟩ := ux_fin (ex := ex) (wo := wo) (sp := sp) (pg := pg) (rg := rg) (pw := pw) (ou := ou) (go := go) hp hJ hN
    have ei : i = 3 := by omega
    subst ei
    exact ⟨u2, v2, hA, fun post h => br_t (by decide) (h1 post h), fun post h => br_t (by decide) (h2 post h)⟩
  | succ t ih =>
    intro i B r u v hi hB hT
    obtain ⟨ex, kd, ns, np, wo, en, st, pp, sp, pc, pg, pn, rg, ds, fi, ow, po, pw, pl, qu, ou, qp, go, m, c, rfl, rfl, hJ, hN, hr⟩ := hT
    have h3 : ¬ (3 : Int32) ≤ nI i := nI_ge (b := 3) (by omega) (by decide)
    have cl : (nI p).toNatClampNeg = p := ux_c (by omega)
    have iv : vp_in (nI p) 5 := vp_in_nI hp (by decide)
    rcases hr with hr | ⟨hr, hs⟩
    · subst hr
      obtain ⟨u2, v2, hA, h1, h2⟩ := ux_fin (ex := ex) (wo := wo) (sp := sp) (pg := pg) (rg := rg) (pw := pw) (ou := ou) (go := go) hp hJ hN
      exact ⟨u2, v2, ux_A_mono hA (by omega), fun post h => br_f h3 (br_t rfl (h1 post h)), fun post h => br_f h3 (br_t rfl (h2 post h))⟩
    · subst hr
      obtain ⟨r, hr, hnw, hX, hY⟩ := ux_ww (ql := nI m) (pr := nI c) (ex := ex) (ns := ns) (np := np) (wo := wo) (en := en) (sp := sp) (pg := pg) (rg := rg) (fi := fi) (ow := ow) (po := po) (pw := pw) (pl := pl) (qu := qu) (ou := ou) (go := go) hJ.2.1 hJ.2.2.2.2.1 hp (Or.inl hs)
      rcases hr with hr | hr
      · subst hr
        obtain ⟨r, u1, u2, v2, gX, gF, gY, gT⟩ := ux_ex (ex := ex) (wo := wo) (sp := sp) (pg := pg) (rg := rg) (pw := pw) (ou := ou) (go := go) hJ hN hs hp (by omega) (hnw rfl)
        obtain ⟨u3, v3, hA, k1, k2⟩ := ih (i + 1) (B + 1) r u2 v2 (by omega) (by omega) gT
        refine ⟨u3, v3, ux_A_mono hA (by omega), fun post h => ?_, fun post h => ?_⟩
        · refine br_f h3 (br_f (by decide) (hX _ (br_t rfl (nm_e (gX _ ?_)))))
          obtain ⟨ql, pr, ex, kd, ns, np, wo, en, st, pp, sp, pc, pg, pn, rg, ds, fi, ow, po, pw, pl, qu, ou⟩ := u1
          refine gF _ ?_
          obtain ⟨ql, pr, ex, kd, ns, np, wo, en, st, pp, sp, pc, pg, pn, rg, ds, fi, ow, po, pw, pl, qu, ou⟩ := u2
          exact nm_r (nI_1 i) (k1 post h)
        · refine br_f h3 (br_f (by decide) (hY _ (br_t rfl (gY _ ?_))))
          obtain ⟨ql, ex, pr, go, kd, ns, wo, en, np, st, qp, sp, pn, pg, rg, ds, pc, fi, ow, po, pl, pw, qu, ou⟩ := v2
          exact nm_r (nI_1 i) (k2 post h)
      · subst hr
        have hJ2 := ux_J_stop hJ hs hN
        refine ⟨_, _, ux_A_mono (ux_Ai (ex := ex) (wo := wo) (sp := sp) (pg := pg) (rg := rg) (pw := pw) (ou := ou) (go := go) hJ2) (by omega), fun post h => ?_, fun post h => ?_⟩
        · refine br_f h3 (br_f (by decide) (hX _ (br_f (by decide) ⟨iv, ?_⟩)))
          rw [cl]
          refine nm_e (nm_r (nI_1 i) ?_)
          have h71 : wX_takeTurn_71 post (nI p) (nI m) (nI c) ex kd ns np wo en (upd st p 2) pp sp pc pg pn rg ds fi ow po pw pl qu ou := by
            unfold wX_takeTurn_71
            rw [cl, ux_us]
            exact ⟨iv, br_f (by decide) h⟩
          by_cases h4 : (3 : Int32) ≤ nI (i + 1)
          · exact br_t h4 h71
          · exact br_f h4 (br_t rfl h71)
        · refine br_f h3 (br_f (by decide) (hY _ (br_f (by decide) ⟨iv, ?_⟩)))
          rw [cl]
          exact nm_e h
theorem ux_turn (hJ : ux_J B kd ns np en ds fi ow po st pp qp pc pn pl qu m c) (hm : 0 < m) (hB : B + 3 < 1000000) : ∃ u v, ux_A (B + 3) u v ∧ (∀ post : SX → Prop, post u → wpX_takeTurn post (nI m, nI c, ex, kd, ns, np, wo, en, st, pp, sp, pc, pg, pn, rg, ds, fi, ow, po, pw, pl, qu, ou)) ∧ (∀ post : SY → Prop, post v → wpY_turn post ((nI m), ex, (nI c), go, kd, (ux_LN kd ns), wo, (ux_EN en), np, st, qp, sp, pn, pg, rg, (ux_ED ds), pc, fi, ow, po, pl, pw, qu, ou)) := by
  obtain ⟨p, hp, e0, hs⟩ := hJ.2.2.2.2.2.1.2.1 0 hm
  have hm5 := hJ.2.2.2.2.2.1.1
  obtain ⟨hJ2, hN2⟩ := ux_J_take (p := p) hJ
  obtain ⟨u, v, hA, h1, h2⟩ := ux_tl hp 3 0 B 1 _ _ (by omega) (by omega) ⟨ex, kd, ns, np, wo, en, st, pp, sp, pc, pg, pn, rg, ds, fi, ow, po, pw, pl, (ux_lk qu p m).1, ou, qp, go, (ux_lk qu p m).2, c, rfl, rfl, hJ2, hN2, Or.inr ⟨rfl, hs⟩⟩
  refine ⟨u, v, hA, fun post h => ?_, fun post h => ?_⟩
  · exact nm_r e0 (xa_lq hm5 ⟨4, h1 post h⟩)
  · exact nm_r e0 (ya_lq hm5 ⟨4, h2 post h⟩)
/-- what the reference does behind its waking -/
def yw (post : Int32 → SY → Prop) (J : Int32 → Int32 → Int64 → Int32 → Int32 → (Nat → Int32) → (Nat → Int32) → (Nat → Int32) → (Nat → Int32) → (Nat → Int32) → (Nat → Int32) → (Nat → Int32) → (Nat → Int32) → (Nat → Int32) → (Nat → Int32) → (Nat → Int32) → (Nat → Int32) → (Nat → Int32) → (Nat → Int32) → (Nat → Int32) → (Nat → Int32) → (Nat → Int32) → (Nat → Int32) → (Nat → Int32) → (Nat → Int32) → Prop) (x3 : Int32) (v : SY) : Prop := match v with
  | (ql, ex, pr, go, kd, ns, wo, en, np, st, qp, sp, pn, pg, rg, ds, pc, fi, ow, po, pl, pw, qu, ou) => (ql = 0 → post x3 (ql, ex, pr, go, kd, ns, wo, en, np, st, qp, sp, pn, pg, rg, ds, pc, fi, ow, po, pl, pw, qu, ou)) ∧ (¬ ql = 0 → wpY_turn (fun u => match u with | (ql, ex, pr, go, kd, ns, wo, en, np, st, qp, sp, pn, pg, rg, ds, pc, fi, ow, po, pl, pw, qu, ou) => ∀ x, x = x3 + 1 → J x ql ex pr go kd ns wo en np st qp sp pn pg rg ds pc fi ow po pl pw qu ou) (ql, ex, pr, go, kd, ns, wo, en, np, st, qp, sp, pn, pg, rg, ds, pc, fi, ow, po, pl, pw, qu, ou))
theorem ux_wk : ∀ t i (ex : Int64) (kd ns np wo en st pp sp pc pg pn rg ds fi ow po pw pl qu ou qp : Nat → Int32) (go : Int32) (m c : Nat), i + t = 5 → ux_J B kd ns np en ds fi ow po st pp qp pc pn pl qu m c →
    ∃ u v, ux_A B u v ∧ (∀ post : SX → Prop, post u → wX_wakeWaiting_2 post (t + 1) (nI i) (nI m) (nI c) ex kd ns np wo en st pp sp pc pg pn rg ds fi ow po pw pl qu ou) ∧ (∀ post J x2 x3, yw post J x3 v → wY_run_31 post J x2 x3 (t + 1) (nI i) (nI m) ex (nI c) go kd (ux_LN kd ns) wo (ux_EN en) np st qp sp pn pg rg (ux_ED ds) pc fi ow po pl pw qu ou) := by
  intro t
  induction t with
  | zero =>
    intro i ex kd ns np wo en st pp sp pc pg pn rg ds fi ow po pw pl qu ou qp go m c hi hJ
    have ei : i = 5 := by omega
    subst ei
    exact ⟨_, _, ux_Ai (ex := ex) (wo := wo) (sp := sp) (pg := pg) (rg := rg) (pw := pw) (ou := ou) (go := go) hJ, fun post h => br_t (by decide) h, fun post J x2 x3 h => br_t (by decide) h⟩
  | succ t ih =>
    intro i ex kd ns np wo en st pp sp pc pg pn rg ds fi ow po pw pl qu ou qp go m c hi hJ
    have h5 : ¬ (5 : Int32) ≤ nI i := nI_ge (b := 5) (by omega) (by decide)
    have ci : (nI i).toNatClampNeg = i := ux_c (by omega)
    have iv : vp_in (nI i) 5 := vp_in_nI (by omega) (by decide)
    by_cases hs : st i = 2
    · obtain ⟨r, hr, hnw, hX, hY⟩ := ux_ww (p := i) (ql := nI m) (pr := nI c) (ex := ex) (ns := ns) (np := np) (wo := wo) (en := en) (sp := sp) (pg := pg) (rg := rg) (fi := fi) (ow := ow) (po := po) (pw := pw) (pl := pl) (qu := qu) (ou := ou) (go := go) hJ.2.1 hJ.2.2.2.2.1 (by omega) (Or.inr hs)
      rcases hr with hr | hr
      · subst hr
        obtain ⟨hm, hJ2⟩ := ux_J_wake (p := i) hJ (by omega) hs
        obtain ⟨u, v, hA, h1, h2⟩ := ih (i + 1) ex kd ns np wo en _ pp sp pc pg pn rg ds fi ow po pw pl _ ou qp go _ c (by omega) hJ2
        refine ⟨u, v, hA, fun post h => br_f h5 ⟨iv, ?_⟩, fun post J x2 x3 h => br_f h5 ⟨iv, ?_⟩⟩
        · rw [ci]
          exact br_t hs (hX _ (br_t rfl ⟨iv, nm_e (xa_jq (by omega) hm (nm_r (nI_1 i) (h1 post h)))⟩))
        · rw [ci]
          exact br_t hs (hY _ (br_t rfl (ya_jq (by omega) (by omega) (nm_r (nI_1 i) (h2 post J x2 x3 h)))))
      · subst hr
        obtain ⟨u, v, hA, h1, h2⟩ := ih (i + 1) ex kd ns np wo en st pp sp pc pg pn rg ds fi ow po pw pl qu ou qp go m c (by omega) hJ
        refine ⟨u, v, hA, fun post h => br_f h5 ⟨iv, ?_⟩, fun post J x2 x3 h => br_f h5 ⟨iv, ?_⟩⟩
        · rw [ci]
          exact br_t hs (hX _ (br_f (by decide) (nm_r (nI_1 i) (h1 post h))))
        · rw [ci]
          exact br_t hs (hY _ (br_f (by decide) (nm_r (nI_1 i) (h2 post J x2 x3 h))))
    · obtain ⟨u, v, hA, h1, h2⟩ := ih (i + 1) ex kd ns np wo en st pp sp pc pg pn rg ds fi ow po pw pl qu ou qp go m c (by omega) hJ
      refine ⟨u, v, hA, fun post h => br_f h5 ⟨iv, ?_⟩, fun post J x2 x3 h => br_f h5 ⟨iv, ?_⟩⟩
      · rw [ci]
        exact br_f hs (nm_r (nI_1 i) (h1 post h))
      · rw [ci]
        exact br_f hs (nm_r (nI_1 i) (h2 post J x2 x3 h))
theorem ux_run : ∀ t i B u v, i + t ≤ 80 → B + 3 * t < 1000000 → ux_A B u v → ∃ r u2 v2, ux_A (B + 3 * t) u2 v2 ∧ (∀ post : Int32 → SX → Prop, post r u2 → match u with | (ql, pr, ex, kd, ns, np, wo, en, st, pp, sp, pc, pg, pn, rg, ds, fi, ow, po, pw, pl, qu, ou) => wX_run_18 post (nI (i + t)) (t + 1) (nI i) (nI i) ql pr ex kd ns np wo en st pp sp pc pg pn rg ds fi ow po pw pl qu ou) ∧ (∀ post : Int32 → SY → Prop, post r v2 → match v with | (ql, ex, pr, go, kd, ns, wo, en, np, st, qp, sp, pn, pg, rg, ds, pc, fi, ow, po, pl, pw, qu, ou) => wY_run_23 post (nI (i + t)) (t + 1) (nI i) ql ex pr go kd ns wo en np st qp sp pn pg rg ds pc fi ow po pl pw qu ou) := by
  intro t
  induction t with
  | zero =>
    intro i B u v hi hB hA
    obtain ⟨ex, kd, ns, np, wo, en, st, pp, sp, pc, pg, pn, rg, ds, fi, ow, po, pw, pl, qu, ou, qp, go, m, c, rfl, rfl, hJ⟩ := hA
    exact ⟨nI i, _, _, ux_Ai (ex := ex) (wo := wo) (sp := sp) (pg := pg) (rg := rg) (pw := pw) (ou := ou) (go := go) hJ, fun post h => br_t (nI_le (by omega) (by omega)) h, fun post h => br_t (nI_le (by omega) (by omega)) h⟩
  | succ t ih =>
    intro i B u v hi hB hA
    obtain ⟨ex, kd, ns, np, wo, en, st, pp, sp, pc, pg, pn, rg, ds, fi, ow, po, pw, pl, qu, ou, qp, go, m, c, rfl, rfl, hJ⟩ := hA
    have hn : ¬ nI (i + (t + 1)) ≤ nI i := nI_ge (by omega) (by omega)
    obtain ⟨u1, v1, hA1, w1, w2⟩ := ux_wk (B := B) 5 0 ex kd ns np wo en st pp sp pc pg pn rg ds fi ow po pw pl qu ou qp go m c (by omega) hJ
    obtain ⟨ex, kd, ns, np, wo, en, st, pp, sp, pc, pg, pn, rg, ds, fi, ow, po, pw, pl, qu, ou, qp, go, m, c, rfl, rfl, hJ1⟩ := hA1
    have hm5 := hJ1.2.2.2.2.2.1.1
    by_cases hm : m = 0
    · refine ⟨nI i, _, _, ux_A_mono (ux_Ai (ex := ex) (wo := wo) (sp := sp) (pg := pg) (rg := rg) (pw := pw) (ou := ou) (go := go) hJ1) (by omega), fun post h => br_f hn ⟨6, w1 _ (br_t ?_ h)⟩, fun post h => br_f hn ⟨6, w2 _ _ _ _ (br_t ?_ h)⟩⟩
      · rw [hm]; rfl
      · rw [hm]; rfl
    · obtain ⟨u2, v2, hA2, t1, t2⟩ := ux_turn (ex := ex) (wo := wo) (sp := sp) (pg := pg) (rg := rg) (pw := pw) (ou := ou) (go := go) hJ1 (by omega) (by omega)
      obtain ⟨r, u3, v3, hA3, k1, k2⟩ := ih (i + 1) (B + 3) u2 v2 (by omega) (by omega) hA2
      rw [show i + 1 + t = i + (t + 1) by omega] at k1 k2
      refine ⟨r, u3, v3, ux_A_mono hA3 (by omega), fun post h => br_f hn ⟨6, w1 _ (br_f (ux_nz (by omega) (by omega)) (t1 _ ?_))⟩, fun post h => br_f hn ⟨6, w2 _ _ _ _ (br_f (ux_nz (by omega) (by omega)) (t2 _ ?_))⟩⟩
      · obtain ⟨ql, pr, ex, kd, ns, np, wo, en, st, pp, sp, pc, pg, pn, rg, ds, fi, ow, po, pw, pl, qu, ou⟩ := u2
        exact nm_r (nI_1 i) (nm_r (nI_1 i) (k1 post h))
      · obtain ⟨ql, ex, pr, go, kd, ns, wo, en, np, st, qp, sp, pn, pg, rg, ds, pc, fi, ow, po, pl, pw, qu, ou⟩ := v2
        exact nm_r (nI_1 i) (k2 post h)
end UX27
