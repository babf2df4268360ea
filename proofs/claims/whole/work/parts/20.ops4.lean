section UX20A
variable {ql pr : Int32} {ex : Int64} {kd ns np wo en st pp sp pc pg pn rg ds fi ow po pw pl qu ou : Nat → Int32}
variable {post : Int32 → Prop} {k : Nat}
def ux_pf (ds : Nat → Int32) (k : Nat) : Prop := ¬ ux_hd ds (nI (4096 + k)) ∧ ¬ ux_hd ds (nI (8192 + k))
theorem xs_piN (f : Nat) (i : Nat) (hi : i < 2) (hn : ¬ ux_pf ds i) (h : wX_freePipe_2 post ql pr ex kd ns np wo en st pp sp pc pg pn rg ds fi ow po pw pl qu ou f (nI (i + 1))) : wX_freePipe_2 post ql pr ex kd ns np wo en st pp sp pc pg pn rg ds fi ow po pw pl qu ou (f + 1) (nI i) := by
  refine br_f (nI_ge (b := 2) hi (by decide)) ?_
  rw [ux_l_add, ux_l_add]
  by_cases h1 : ux_hd ds (nI (4096 + i))
  · exact xa_ih1 h1 (br_f (by decide) (nm_r (nI_1 i) h))
  · by_cases h2 : ux_hd ds (nI (8192 + i))
    · exact xa_ih0 h1 (br_t rfl (xa_ih1 h2 (br_f (by decide) (nm_r (nI_1 i) h))))
    · exact absurd ⟨h1, h2⟩ hn
theorem xs_piY (f : Nat) (i : Nat) (hi : i < 2) (hn : ux_pf ds i) (h : post (nI i)) : wX_freePipe_2 post ql pr ex kd ns np wo en st pp sp pc pg pn rg ds fi ow po pw pl qu ou (f + 1) (nI i) := by
  refine br_f (nI_ge (b := 2) hi (by decide)) ?_
  rw [ux_l_add, ux_l_add]
  exact xa_ih0 hn.1 (br_t rfl (xa_ih0 hn.2 (br_t rfl h)))
theorem xa_pi (hk : k < 2) (hf : ux_pf ds k) (hj : ∀ j, j < k → ¬ ux_pf ds j) (h : post (nI k)) : wpX_freePipe post (ql, pr, ex, kd, ns, np, wo, en, st, pp, sp, pc, pg, pn, rg, ds, fi, ow, po, pw, pl, qu, ou) := by
  by_cases e : k = 0
  · subst e
    exact ⟨1, xs_piY 0 0 (by omega) hf h⟩
  · have e1 : k = 1 := by omega
    subst e1
    exact ⟨2, xs_piN 1 0 (by omega) (hj 0 (by omega)) (xs_piY 0 1 (by omega) hf h)⟩
theorem xa_pi0 (hj : ∀ j, j < 2 → ¬ ux_pf ds j) (h : post (-1)) : wpX_freePipe post (ql, pr, ex, kd, ns, np, wo, en, st, pp, sp, pc, pg, pn, rg, ds, fi, ow, po, pw, pl, qu, ou) :=
  ⟨3, xs_piN 2 0 (by omega) (hj 0 (by omega)) (xs_piN 1 1 (by omega) (hj 1 (by omega)) (br_t (by decide) h))⟩
end UX20A
section UX20B
variable {ql pr go : Int32} {ex : Int64} {kd ns le wo en et np st qp sp pn pg rg ee ds pc fi ow po pl pw qu ou : Nat → Int32}
variable {post : SY → Prop} {k : Nat} {x1 x2 x3 x4 x5 : Int32}
theorem ya_pf (hD : ux_D ds) (hk : k < 2) : ux_pf ds k ↔ (¬ ux_hd (ux_ED ds) (nI (101 + k)) ∧ ¬ ux_hd (ux_ED ds) (nI (201 + k))) := by
  unfold ux_pf
  rw [ux_hd_r hD hk, ux_hd_w hD hk]
theorem ys_p51Y (hD : ux_D ds) (hf : ux_pf ds 1) (h : wY_pipeNew_75 post x1 x2 x3 x4 x5 1 ql ex pr go kd le wo et np st qp sp pn pg rg (ux_ED ds) pc fi ow po pl pw qu ou) : wY_pipeNew_51 post x1 x2 x3 x4 x5 ql ex pr go kd le wo et np st qp sp pn pg rg (ux_ED ds) pc fi ow po pl pw qu ou := by
  have h2 := (ya_pf hD (by omega)).mp hf
  unfold wY_pipeNew_51
  exact ya_h0 h2.1 (br_t rfl (ya_h0 h2.2 (br_t rfl h)))
theorem ys_p51N (hD : ux_D ds) (hf : ¬ ux_pf ds 1) (h : wY_pipeNew_75 post x1 x2 x3 x4 x5 (-1) ql ex pr go kd le wo et np st qp sp pn pg rg (ux_ED ds) pc fi ow po pl pw qu ou) : wY_pipeNew_51 post x1 x2 x3 x4 x5 ql ex pr go kd le wo et np st qp sp pn pg rg (ux_ED ds) pc fi ow po pl pw qu ou := by
  unfold wY_pipeNew_51
  by_cases h1 : ux_hd (ux_ED ds) (nI (101 + 1))
  · exact ya_h1 h1 (br_f (by decide) h)
  · by_cases h2 : ux_hd (ux_ED ds) (nI (201 + 1))
    · exact ya_h0 h1 (br_t rfl (ya_h1 h2 (br_f (by decide) h)))
    · exact absurd ((ya_pf hD (by omega)).mpr ⟨h1, h2⟩) hf
theorem ys_p26N (hD : ux_D ds) (hf : ¬ ux_pf ds 0) (h : wY_pipeNew_51 post x1 x2 x3 x4 x5 ql ex pr go kd le wo et np st qp sp pn pg rg (ux_ED ds) pc fi ow po pl pw qu ou) : wY_pipeNew_26 post x1 x2 x3 x4 x5 ql ex pr go kd le wo et np st qp sp pn pg rg (ux_ED ds) pc fi ow po pl pw qu ou := by
  unfold wY_pipeNew_26
  by_cases h1 : ux_hd (ux_ED ds) (nI (101 + 0))
  · exact ya_h1 h1 (br_f (by decide) h)
  · by_cases h2 : ux_hd (ux_ED ds) (nI (201 + 0))
    · exact ya_h0 h1 (br_t rfl (ya_h1 h2 (br_f (by decide) h)))
    · exact absurd ((ya_pf hD (by omega)).mpr ⟨h1, h2⟩) hf
theorem ya_pi (hD : ux_D ds) (hk : k < 2) (hf : ux_pf ds k) (hj : ∀ j, j < k → ¬ ux_pf ds j) (h : wY_pipeNew_75 post x1 x2 x3 x4 x5 (nI k) ql ex pr go kd le wo et np st qp sp pn pg rg (ux_ED ds) pc fi ow po pl pw qu ou) : wY_pipeNew_26 post x1 x2 x3 x4 x5 ql ex pr go kd le wo et np st qp sp pn pg rg (ux_ED ds) pc fi ow po pl pw qu ou := by
  by_cases e : k = 0
  · subst e
    have h2 := (ya_pf hD (by omega)).mp hf
    unfold wY_pipeNew_26
    exact ya_h0 h2.1 (br_t rfl (ya_h0 h2.2 (br_t rfl h)))
  · have e1 : k = 1 := by omega
    subst e1
    exact ys_p26N hD (hj 0 (by omega)) (ys_p51Y hD hf h)
theorem ya_pi0 (hD : ux_D ds) (hj : ∀ j, j < 2 → ¬ ux_pf ds j) (h : wY_pipeNew_75 post x1 x2 x3 x4 x5 (-1) ql ex pr go kd le wo et np st qp sp pn pg rg (ux_ED ds) pc fi ow po pl pw qu ou) : wY_pipeNew_26 post x1 x2 x3 x4 x5 ql ex pr go kd le wo et np st qp sp pn pg rg (ux_ED ds) pc fi ow po pl pw qu ou :=
  ys_p26N hD (hj 0 (by omega)) (ys_p51N hD (hj 1 (by omega)) h)
end UX20B
section UX20
variable {ql pr : Int32} {ex : Int64} {kd ns np wo en st pp sp pc pg pn rg ds fi ow po pw pl qu ou : Nat → Int32}
variable {qp : Nat → Int32} {go : Int32} {B p s l a b m c : Nat}
theorem op_17f (hJ : ux_J B kd ns np en ds fi ow po st pp qp pc pn pl qu m c) (hN : ux_N qu m p) (hs : st p = 1) (H : ux_in sp pn pg p s l a b 17)
    (hw : (∀ j, j < 2 → ¬ ux_pf ds j) ∨ ux_nf ds p 0 ∨ ∃ f, ux_fd ds p 0 f ∧ ux_nf ds p (f + 1)) : ux_G (B + 1) p (nI m, nI c, ex + 1, kd, ns, np, wo, en, st, pp, sp, pc, pg, pn, rg, ds, fi, ow, po, pw, pl, qu, ou) ((nI m), ex, (nI c), go, kd, (ux_LN kd ns), wo, (ux_EN en), np, st, qp, sp, pn, pg, rg, (ux_ED ds), pc, fi, ow, po, pl, pw, qu, ou) := by
  obtain ⟨hF, hD, hO, hZ, hR, hU, hI, hL, hB⟩ := id hJ
  obtain ⟨hp, hi, ho, ha, ea, hb, eb⟩ := id H
  have cl : (nI p).toNatClampNeg = p := ux_c (by omega)
  have iv : vp_in (nI p) 5 := vp_in_nI hp (by decide)
  have ca : (nI (p * 4 + a)).toNatClampNeg = p * 4 + a := ux_c (by omega)
  have cb : (nI (p * 4 + b)).toNatClampNeg = p * 4 + b := ux_c (by omega)
  have c3 : (nI (p * 4 + 3)).toNatClampNeg = p * 4 + 3 := ux_c (by omega)
  have va : vp_in (nI (p * 4 + a)) 20 := vp_in_nI (by omega) (by decide)
  have vb : vp_in (nI (p * 4 + b)) 20 := vp_in_nI (by omega) (by decide)
  have v3 : vp_in (nI (p * 4 + 3)) 20 := vp_in_nI (by omega) (by decide)
  have e4 : 4 * nI p + nI a = nI (p * 4 + a) := by rw [ux_l_mul, nI_add, Nat.mul_comm]
  have f4 : 4 * nI p + nI b = nI (p * 4 + b) := by rw [ux_l_mul, nI_add, Nat.mul_comm]
  have x3 : nI p * 4 + 3 = nI (p * 4 + 3) := by rw [ux_mul_l, ux_add_l]
  have y3 : 4 * nI p + 3 = nI (p * 4 + 3) := by rw [ux_l_mul, ux_add_l, Nat.mul_comm]
  refine ux_G1 (r := 1) (go := 1) (rg := upd rg (p * 4 + 3) (-1)) (sp := upd sp p (sp p + 1)) (ex := ex + 1) (kd := kd) (ns := ns) (np := np) (wo := wo) (en := en) (st := st) (pp := pp) (pc := pc) (pg := pg) (pn := pn) (ds := ds) (fi := fi) (ow := ow) (po := po) (pw := pw) (pl := pl) (qu := qu) (ou := ou) (qp := qp) (m := m) (c := c) (fun _ h => xj_17 H (fun Q hQ => ?_)) (fun _ h => yj_17 H (fun Q hQ => ?_)) (ux_J_mono hJ (by omega)) hN (Or.inr ⟨rfl, hs⟩)
  · have hX : wX_openPipe_40 Q (nI p) (nI m) (nI c) (ex + 1) kd ns np wo en st pp (upd sp p (sp p + 1)) pc pg pn rg ds fi ow po pw pl qu ou := xa_fail hp (hQ _ (x634a hp hs (by decide) h))
    have hd : ∀ r : Int32, ((∀ j, j < 2 → ¬ ux_pf ds j) → r < 0) → wpX_newDescriptor (fun r_25 => wpX_newDescriptor (fun r_49 => ((r < 0 → wX_openPipe_40 Q (nI p) (nI m) (nI c) (ex + 1) kd ns np wo en st pp (upd sp p (sp p + 1)) pc pg pn rg ds fi ow po pw pl qu ou) ∧ (¬ r < 0 → ((r_25 < 0 → wX_openPipe_40 Q (nI p) (nI m) (nI c) (ex + 1) kd ns np wo en st pp (upd sp p (sp p + 1)) pc pg pn rg ds fi ow po pw pl qu ou) ∧ (¬ r_25 < 0 → ((0 ≤ r_49 → (vp_in r 2 ∧ ∀ a_pipeLength_101, a_pipeLength_101 = upd pl r.toNatClampNeg 0 → (vp_in ((nI p * 4) + r_25) 20 ∧ ∀ a_descriptors_103, a_descriptors_103 = upd ds ((nI p * 4) + r_25).toNatClampNeg (4096 + r) → (vp_in ((nI p * 4) + r_49) 20 ∧ ∀ a_descriptors_105, a_descriptors_105 = upd a_descriptors_103 ((nI p * 4) + r_49).toNatClampNeg (8192 + r) → (vp_in (nI (p * 4 + a)) 20 ∧ ∀ a_registers_107, a_registers_107 = upd rg (nI (p * 4 + a)).toNatClampNeg r_25 → (vp_in (nI (p * 4 + b)) 20 ∧ ∀ a_registers_109, a_registers_109 = upd a_registers_107 (nI (p * 4 + b)).toNatClampNeg r_49 → (Q (nI m, nI c, ex + 1, kd, ns, np, wo, en, st, pp, upd sp p (sp p + 1), pc, pg, pn, a_registers_109, a_descriptors_105, fi, ow, po, pw, a_pipeLength_101, qu, ou)))))))) ∧ (¬ 0 ≤ r_49 → wX_openPipe_40 Q (nI p) (nI m) (nI c) (ex + 1) kd ns np wo en st pp (upd sp p (sp p + 1)) pc pg pn rg ds fi ow po pw pl qu ou))))))) (nI m, nI c, ex + 1, kd, ns, np, wo, en, st, pp, upd sp p (sp p + 1), pc, pg, pn, rg, ds, fi, ow, po, pw, pl, qu, ou) (nI p) (r_25 + 1)) (nI m, nI c, ex + 1, kd, ns, np, wo, en, st, pp, upd sp p (sp p + 1), pc, pg, pn, rg, ds, fi, ow, po, pw, pl, qu, ou) (nI p) 0 := by
      intro r hr
      rcases ux_fdnf ds p 0 (by omega) with ⟨f, hf⟩ | hf
      · refine xa_nd (a := 0) hp hf ?_
        rw [nI_1]
        rcases ux_fdnf ds p (f + 1) (by have := hf.2.1; omega) with ⟨g, hg⟩ | hg
        · refine xa_nd hp hg ?_
          rcases hw with z | z | ⟨f2, hf2, z⟩
          · exact br_t (hr z) hX
          · exact absurd hf.2.2.1 (z.2 f (by omega) hf.2.1)
          · have ef : f2 = f := by
              rcases Nat.lt_trichotomy f2 f with q | q | q
              · exact absurd hf2.2.2.1 (hf.2.2.2 f2 (by omega) q)
              · exact q
              · exact absurd hf.2.2.1 (hf2.2.2.2 f (by omega) q)
            subst ef
            exact absurd hg.2.2.1 (z.2 g hg.1 hg.2.1)
        · refine xa_nd0 hp hg ?_
          by_cases hz : r < 0
          · exact br_t hz hX
          · exact br_f hz (br_f (nI_pos (by have := hf.2.1; omega)) (br_f (by decide) hX))
      · refine xa_nd0 (a := 0) hp hf ?_
        have tail : ∀ r_49 : Int32, ((r < 0 → wX_openPipe_40 Q (nI p) (nI m) (nI c) (ex + 1) kd ns np wo en st pp (upd sp p (sp p + 1)) pc pg pn rg ds fi ow po pw pl qu ou) ∧ (¬ r < 0 → (((-1 : Int32) < 0 → wX_openPipe_40 Q (nI p) (nI m) (nI c) (ex + 1) kd ns np wo en st pp (upd sp p (sp p + 1)) pc pg pn rg ds fi ow po pw pl qu ou) ∧ (¬ (-1 : Int32) < 0 → ((0 ≤ r_49 → (vp_in r 2 ∧ ∀ a_pipeLength_101, a_pipeLength_101 = upd pl r.toNatClampNeg 0 → (vp_in ((nI p * 4) + (-1)) 20 ∧ ∀ a_descriptors_103, a_descriptors_103 = upd ds ((nI p * 4) + (-1)).toNatClampNeg (4096 + r) → (vp_in ((nI p * 4) + r_49) 20 ∧ ∀ a_descriptors_105, a_descriptors_105 = upd a_descriptors_103 ((nI p * 4) + r_49).toNatClampNeg (8192 + r) → (vp_in (nI (p * 4 + a)) 20 ∧ ∀ a_registers_107, a_registers_107 = upd rg (nI (p * 4 + a)).toNatClampNeg (-1) → (vp_in (nI (p * 4 + b)) 20 ∧ ∀ a_registers_109, a_registers_109 = upd a_registers_107 (nI (p * 4 + b)).toNatClampNeg r_49 → (Q (nI m, nI c, ex + 1, kd, ns, np, wo, en, st, pp, upd sp p (sp p + 1), pc, pg, pn, a_registers_109, a_descriptors_105, fi, ow, po, pw, a_pipeLength_101, qu, ou)))))))) ∧ (¬ 0 ≤ r_49 → wX_openPipe_40 Q (nI p) (nI m) (nI c) (ex + 1) kd ns np wo en st pp (upd sp p (sp p + 1)) pc pg pn rg ds fi ow po pw pl qu ou)))))) := by
          intro r_49
          by_cases hz : r < 0
          · exact br_t hz hX
          · exact br_f hz (br_t (by decide) hX)
        exact xa_nd0 (a := 0) hp hf (tail (-1))
    unfold wpX_openPipe
    rcases ux_ls (fun j => ux_pf ds j) 2 with ⟨k, hk, hk2, hj⟩ | hno
    · refine xa_pi hk hk2 hj (hd (nI k) (fun z => absurd hk2 (z k hk)))
    · exact xa_pi0 hno (hd (-1) (fun _ => by decide))
  · have hX : wY_pipeNew_87 Q (nI p) (nI m) (ex + 1) (nI c) 1 kd (ux_LN kd ns) wo (ux_EN en) np st qp sp pn pg rg (ux_ED ds) pc fi ow po pl pw qu ou := ya_fail hp (hQ _ (y262a hp rfl (by decide) h))
    have h26 : ∀ x4 x5 : Int32, (((∃ j, j < 2 ∧ ux_pf ds j)) → x5 < 0) → wY_pipeNew_26 Q (nI p) (nI a) (nI b) x4 x5 (nI m) (ex + 1) (nI c) 1 kd (ux_LN kd ns) wo (ux_EN en) np st qp sp pn pg rg (ux_ED ds) pc fi ow po pl pw qu ou := by
      intro x4 x5 hx
      rcases ux_ls (fun j => ux_pf ds j) 2 with ⟨k, hk, hk2, hj⟩ | hno
      · exact ya_pi hD hk hk2 hj (br_t (hx ⟨k, hk, hk2⟩) hX)
      · refine ya_pi0 hD hno ?_
        by_cases hz : x5 < 0
        · exact br_t hz hX
        · exact br_f hz (br_f (by decide) hX)
    unfold wpY_pipeNew
    rcases ux_fdnf ds p 0 (by omega) with ⟨f, hf⟩ | hf
    · refine ya_nd (a := 0) hD hp hf (br_t (nI_pos' (by have := hf.2.1; omega)) ?_)
      rw [nI_1]
      rcases ux_fdnf ds p (f + 1) (by have := hf.2.1; omega) with ⟨g, hg⟩ | hg
      · refine ya_nd hD hp hg (h26 _ _ (fun ⟨j, hj, hj2⟩ => ?_))
        rcases hw with z | z | ⟨f2, hf2, z⟩
        · exact absurd hj2 (z j hj)
        · exact absurd hf.2.2.1 (z.2 f (by omega) hf.2.1)
        · have ef : f2 = f := by
            rcases Nat.lt_trichotomy f2 f with q | q | q
            · exact absurd hf2.2.2.1 (hf.2.2.2 f2 (by omega) q)
            · exact q
            · exact absurd hf.2.2.1 (hf2.2.2.2 f (by omega) q)
          subst ef
          exact absurd hg.2.2.1 (z.2 g hg.1 hg.2.1)
      · exact ya_nd0 hD hp hg (h26 _ _ (fun _ => by decide))
    · exact ya_nd0 (a := 0) hD hp hf (br_f (by decide) (h26 _ _ (fun _ => by decide)))
theorem op_17 (hJ : ux_J B kd ns np en ds fi ow po st pp qp pc pn pl qu m c) (hN : ux_N qu m p) (hs : st p = 1) (H : ux_in sp pn pg p s l a b 17) : ux_G (B + 1) p (nI m, nI c, ex + 1, kd, ns, np, wo, en, st, pp, sp, pc, pg, pn, rg, ds, fi, ow, po, pw, pl, qu, ou) ((nI m), ex, (nI c), go, kd, (ux_LN kd ns), wo, (ux_EN en), np, st, qp, sp, pn, pg, rg, (ux_ED ds), pc, fi, ow, po, pl, pw, qu, ou) := by
  obtain ⟨hF, hD, hO, hZ, hR, hU, hI, hL, hB⟩ := id hJ
  obtain ⟨hp, hi, ho, ha, ea, hb, eb⟩ := id H
  have cl : (nI p).toNatClampNeg = p := ux_c (by omega)
  have iv : vp_in (nI p) 5 := vp_in_nI hp (by decide)
  have ca : (nI (p * 4 + a)).toNatClampNeg = p * 4 + a := ux_c (by omega)
  have cb : (nI (p * 4 + b)).toNatClampNeg = p * 4 + b := ux_c (by omega)
  have c3 : (nI (p * 4 + 3)).toNatClampNeg = p * 4 + 3 := ux_c (by omega)
  have va : vp_in (nI (p * 4 + a)) 20 := vp_in_nI (by omega) (by decide)
  have vb : vp_in (nI (p * 4 + b)) 20 := vp_in_nI (by omega) (by decide)
  have v3 : vp_in (nI (p * 4 + 3)) 20 := vp_in_nI (by omega) (by decide)
  have e4 : 4 * nI p + nI a = nI (p * 4 + a) := by rw [ux_l_mul, nI_add, Nat.mul_comm]
  have f4 : 4 * nI p + nI b = nI (p * 4 + b) := by rw [ux_l_mul, nI_add, Nat.mul_comm]
  have x3 : nI p * 4 + 3 = nI (p * 4 + 3) := by rw [ux_mul_l, ux_add_l]
  have y3 : 4 * nI p + 3 = nI (p * 4 + 3) := by rw [ux_l_mul, ux_add_l, Nat.mul_comm]
  rcases ux_ls (fun j => ux_pf ds j) 2 with ⟨k, hk, hk2, hj⟩ | hno
  · rcases ux_fdnf ds p 0 (by omega) with ⟨f, hf⟩ | hf
    · rcases ux_fdnf ds p (f + 1) (by have := hf.2.1; omega) with ⟨g, hg⟩ | hg
      · have f4' := hf.2.1
        have g4' := hg.2.1
        have hfg := hg.1
        have ck : (nI k).toNatClampNeg = k := ux_c (by omega)
        have vk : vp_in (nI k) 2 := vp_in_nI hk (by decide)
        have xf : nI p * 4 + nI f = nI (p * 4 + f) := by rw [ux_mul_l, nI_add]
        have yf : 4 * nI p + nI f = nI (p * 4 + f) := by rw [ux_l_mul, nI_add, Nat.mul_comm]
        have xg : nI p * 4 + nI g = nI (p * 4 + g) := by rw [ux_mul_l, nI_add]
        have yg : 4 * nI p + nI g = nI (p * 4 + g) := by rw [ux_l_mul, nI_add, Nat.mul_comm]
        have cf : (nI (p * 4 + f)).toNatClampNeg = p * 4 + f := ux_c (by omega)
        have cg : (nI (p * 4 + g)).toNatClampNeg = p * 4 + g := ux_c (by omega)
        have vf : vp_in (nI (p * 4 + f)) 20 := vp_in_nI (by omega) (by decide)
        have vg : vp_in (nI (p * 4 + g)) 20 := vp_in_nI (by omega) (by decide)
        refine ux_G1 (r := 1) (go := 1) (pl := upd pl k 0) (ds := upd (upd ds (p * 4 + f) (nI (4096 + k))) (p * 4 + g) (nI (8192 + k))) (rg := upd (upd rg (p * 4 + a) (nI f)) (p * 4 + b) (nI g)) (sp := upd sp p (sp p + 1)) (ex := ex + 1) (kd := kd) (ns := ns) (np := np) (wo := wo) (en := en) (st := st) (pp := pp) (pc := pc) (pg := pg) (pn := pn) (fi := fi) (ow := ow) (po := po) (pw := pw) (qu := qu) (ou := ou) (qp := qp) (m := m) (c := c) (fun _ h => xj_17 H (fun Q hQ => ?_)) (fun _ h => yj_17 H (fun Q hQ => ?_)) ?_ hN (Or.inr ⟨rfl, hs⟩)
        · unfold wpX_openPipe
          refine xa_pi hk hk2 hj (xa_nd (a := 0) hp hf ?_)
          rw [nI_1]
          refine xa_nd hp hg (br_f (nI_pos (by omega)) (br_f (nI_pos (by omega)) (br_t (nI_pos' (by omega)) ?_)))
          rw [ck, xf, xg, cf, cg, ca, cb, ux_l_add, ux_l_add]
          exact ⟨vk, nm_e ⟨vf, nm_e ⟨vg, nm_e ⟨va, nm_e ⟨vb, nm_e (hQ _ (x634a hp hs (by decide) h))⟩⟩⟩⟩⟩
        · rw [ux_ED_u, ux_ED_u, ux_cvr k hk, ux_cvw k hk] at h
          unfold wpY_pipeNew
          refine ya_nd (a := 0) hD hp hf (br_t (nI_pos' (by omega)) ?_)
          rw [nI_1]
          refine ya_nd hD hp hg (ya_pi hD hk hk2 hj (br_f (nI_pos (by omega)) (br_t (nI_pos' (by omega)) ?_)))
          rw [ck, yf, yg, cf, cg, e4, f4, ca, cb, ux_l_add, ux_l_add]
          exact ⟨vk, nm_e ⟨vf, nm_e ⟨vg, nm_e ⟨va, nm_e ⟨vb, nm_e (hQ _ (y262a hp rfl (by decide) h))⟩⟩⟩⟩⟩
        · refine ux_J_mono (ux_J_pend (ux_J_pend (ux_J_pl (q := 0) hJ (by omega)) hs f4' hf.2.2.1 ⟨k, hk, Or.inl rfl⟩) hs g4' ?_ ⟨k, hk, Or.inr rfl⟩) (by omega)
          rw [ux_un (by omega)]; exact hg.2.2.1
      · exact op_17f hJ hN hs H (Or.inr (Or.inr ⟨f, hf, hg⟩))
    · exact op_17f hJ hN hs H (Or.inr (Or.inl hf))
  · exact op_17f hJ hN hs H (Or.inl hno)
end UX20
