section UX30X
variable {ql pr : Int32} {ex : Int64} {kd ns np wo en st pp sp pc pg pn rg ds fi ow po pw pl qu ou : Nat → Int32}
variable {post : Int32 → SX → Prop} {p n m q g : Nat} {x : Int32}
theorem xa_f49y (hn0 : 0 < n) (hn : n < 10) (hq : q < 20) (hg : g ≤ 20) (eg : ns n = nI g) (hle : q ≤ g) (h1 : q = g → post (nI n) (ql, pr, ex, kd, upd ns n (nI (q + 1)), np, upd wo (n * 20 + q) x, en, st, pp, sp, pc, pg, pn, rg, ds, fi, ow, po, pw, pl, qu, ou)) (h2 : q ≠ g → post (nI n) (ql, pr, ex, kd, ns, np, upd wo (n * 20 + q) x, en, st, pp, sp, pc, pg, pn, rg, ds, fi, ow, po, pw, pl, qu, ou)) : wX_file_49 post (nI q) x (nI n) ql pr ex kd ns np wo en st pp sp pc pg pn rg ds fi ow po pw pl qu ou := by
  unfold wX_file_49
  refine br_f (ux_nz hn0 (by omega)) ⟨vp_in_nI hn (by decide), ?_⟩
  rw [ux_c (n := n) (by omega), eg]
  refine br_t (nI_le hle (by omega)) ?_
  by_cases e : q = g
  · exact xa_pw1 hn hq (by rw [eg, e]) (h1 e)
  · exact xa_pw0 hn hq hg e eg (h2 e)
theorem xa_f49n (hn0 : 0 < n) (hn : n < 10) (hq : q < 20) (eg : ns n = nI g) (hlt : g < q) (h : post (-1000000) (ql, pr, ex, kd, ns, np, wo, en, st, pp, sp, pc, pg, pn, rg, ds, fi, ow, po, pw, pl, qu, ou)) : wX_file_49 post (nI q) x (nI n) ql pr ex kd ns np wo en st pp sp pc pg pn rg ds fi ow po pw pl qu ou := by
  unfold wX_file_49
  refine br_f (ux_nz hn0 (by omega)) ⟨vp_in_nI hn (by decide), ?_⟩
  rw [ux_c (n := n) (by omega), eg]
  exact br_f (nI_ge hlt (by omega)) h
theorem xs_sp {y : Int32} (hp : p < 5) (hn : n < 10) (hm : m < 5) (h : post (nI p) (nI (m + 1), pr, ex, kd, ns, np, wo, en, st, pp, upd sp p 0, pc, ux_cw pg wo (p * 20) (n * 20) 20, upd pn p (ns n), upd (ux_zp rg p) (p * 4) y, ds, fi, ow, po, pw, pl, upd qu m (nI p), ou)) : ∀ r i, i + r = 4 → wX_spawn_49 post y (nI p) (nI n) (nI m) pr ex (r + 1) (nI i) kd ns np wo en st pp sp pc pg pn (ux_zi rg p i) ds fi ow po pw pl qu ou := by
  intro r
  induction r with
  | zero =>
    intro i hi
    have ei : i = 4 := by omega
    subst ei
    refine br_t (by decide) ?_
    rw [show nI p * 4 = nI (p * 4) from ux_mul_l p 4, ux_c (n := p * 4) (by omega)]
    exact ⟨vp_in_nI (by omega) (by decide), nm_e (xa_ld hp hn (xa_jq hp hm h))⟩
  | succ r ih =>
    intro i hi
    have H := ih (i + 1) (by omega)
    rw [ux_zi_s] at H
    have e : nI p * 4 + nI i = nI (p * 4 + i) := by rw [ux_mul_l, nI_add]
    refine br_f (nI_ge (b := 4) (by omega) (by decide)) ?_
    rw [e, ux_c (n := p * 4 + i) (by omega)]
    exact ⟨vp_in_nI (by omega) (by decide), nm_e (nm_r (nI_1 i) H)⟩
end UX30X
section UX30Y
variable {ql pr go : Int32} {ex : Int64} {kd ns le wo en et np st qp sp pn pg rg ee ds pc fi ow po pl pw qu ou : Nat → Int32}
variable {post : Int32 → SY → Prop} {p n m q g i f : Nat} {x y z : Int32}
theorem ya_f106 (hn : n < 10) (hq : q < 20) (hg : g ≤ 20) (eg : le n = nI g) (h1 : q = g → post (nI n) (ql, ex, pr, go, kd, upd le n (nI (q + 1)), upd wo (n * 20 + q) x, et, np, st, qp, sp, pn, pg, rg, ee, pc, fi, ow, po, pl, pw, qu, ou)) (h2 : q ≠ g → post (nI n) (ql, ex, pr, go, kd, le, upd wo (n * 20 + q) x, et, np, st, qp, sp, pn, pg, rg, ee, pc, fi, ow, po, pl, pw, qu, ou)) : wY_file_106 post (nI q) x (nI n) ql ex pr go kd le wo et np st qp sp pn pg rg ee pc fi ow po pl pw qu ou := by
  unfold wY_file_106
  have e : 20 * nI n + nI q = nI (n * 20 + q) := by rw [ux_l_mul, nI_add, Nat.mul_comm]
  have vn : vp_in (nI n) 10 := vp_in_nI hn (by decide)
  rw [e, ux_c (n := n * 20 + q) (by omega), ux_c (n := n) (by omega), eg, nI_1]
  refine ⟨vp_in_nI (by omega) (by decide), nm_e ⟨vn, ?_⟩⟩
  by_cases eq : q = g
  · have h := h1 eq
    subst eq
    exact br_t rfl ⟨vn, vn, nm_e h⟩
  · exact br_f (ux_ne eq (by omega) (by omega)) (h2 eq)
theorem ys_s1 (hp : p < 5) (hi : i < 4) (hz : (i = 0 ∧ z = y) ∨ (i ≠ 0 ∧ z = 0)) (he : ee (p * 4 + i) = 0) (h : wY_spawn_62 post y (nI p) ql ex pr go f (nI (p * 4 + i + 1)) kd le wo et np st qp sp pn pg (upd rg (p * 4 + i) z) ee pc fi ow po pl pw qu ou) : wY_spawn_62 post y (nI p) ql ex pr go (f + 1) (nI (p * 4 + i)) kd le wo et np st qp sp pn pg rg ee pc fi ow po pl pw qu ou := by
  have e1 : 4 * nI p + 4 = nI (p * 4 + 4) := by rw [ux_l_mul, ux_add_l, Nat.mul_comm]
  have e2 : 4 * nI p = nI (p * 4) := by rw [ux_l_mul, Nat.mul_comm]
  have ci : (nI (p * 4 + i)).toNatClampNeg = p * 4 + i := ux_c (by omega)
  have vi : vp_in (nI (p * 4 + i)) 20 := vp_in_nI (by omega) (by decide)
  have key : wY_spawn_91 post (wY_spawn_62 post y (nI p) ql ex pr go f) y (nI p) (nI (p * 4 + i)) z (nI (p * 4 + i)) ql ex pr go kd le wo et np st qp sp pn pg rg ee pc fi ow po pl pw qu ou := by
    unfold wY_spawn_91
    rw [ci]
    exact ⟨vi, nm_e ⟨vi, nm_r (ux_ue he) (nm_r (nI_1 _) h)⟩⟩
  refine br_f (by rw [e1]; exact nI_ge (by omega) (by omega)) ?_
  rw [e2]
  rcases hz with ⟨h1, h2⟩ | ⟨h1, h2⟩
  · rw [h2] at key
    exact br_t (by rw [h1]; rfl) key
  · rw [h2] at key
    exact br_f (ux_ne (by omega) (by omega) (by omega)) key
theorem ya_sp (hp : p < 5) (hm : m < 6) (he : ∀ i, i < 4 → ee (p * 4 + i) = 0) (h : post (nI p) (nI (m + 1), ex, pr, go, kd, le, wo, et, np, upd st p 1, qp, sp, pn, pg, upd (upd (upd (upd rg (p * 4) y) (p * 4 + 1) 0) (p * 4 + 2) 0) (p * 4 + 3) 0, ee, pc, fi, ow, po, pl, pw, upd qu m (nI p), ou)) : wY_spawn_62 post y (nI p) (nI m) ex pr go 5 (nI (p * 4 + 0)) kd le wo et np st qp sp pn pg rg ee pc fi ow po pl pw qu ou := by
  have e1 : 4 * nI p + 4 = nI (p * 4 + 4) := by rw [ux_l_mul, ux_add_l, Nat.mul_comm]
  refine ys_s1 hp (by omega) (Or.inl ⟨rfl, rfl⟩) (he 0 (by omega)) (ys_s1 (i := 1) hp (by omega) (Or.inr ⟨by omega, rfl⟩) (he 1 (by omega)) (ys_s1 (i := 2) hp (by omega) (Or.inr ⟨by omega, rfl⟩) (he 2 (by omega)) (ys_s1 (i := 3) hp (by omega) (Or.inr ⟨by omega, rfl⟩) (he 3 (by omega)) ?_)))
  exact br_t (by rw [e1]; exact nI_le (by omega) (by omega)) (ya_jq hp hm h)
end UX30Y
section UX30
theorem ux_sprg {rg : Nat → Int32} {p : Nat} {y : Int32} : upd (ux_zp rg p) (p * 4) y = upd (upd (upd (upd rg (p * 4) y) (p * 4 + 1) 0) (p * 4 + 2) 0) (p * 4 + 3) 0 := by
  unfold ux_zp
  rw [ux_uc (k := p * 4 + 3) (i := p * 4) (by omega), ux_uc (k := p * 4 + 2) (i := p * 4) (by omega), ux_uc (k := p * 4 + 1) (i := p * 4) (by omega), ux_uu]
theorem i_vc_spawn {k : Nat} {u : SX} {v : SY} (I : i_Rel k u v) (hk : k + 4 ≤ 2048) (v1 : Int32) (v2 : Int32) : wpX_spawn (fun r u' => wpY_spawn (fun r' v' => r' = r ∧ i_Rel (k + 4) u' v') v v1 v2) u v1 v2 := by
  have I4 := i_up I
  obtain ⟨ex, kd, ns, np, wo, en, st, pp, sp, pc, pg, pn, rg, ds, fi, ow, po, pw, pl, qu, ou, qp, go, m, c, rfl, rfl, hJ⟩ := I
  obtain ⟨hF, hD, hO, hZ, hR, hU, hI, hL, hB⟩ := id hJ
  have hbad : ((∀ j, j < 5 → st j ≠ 0) ∨ ux_no en 0 v1 ∨ ∃ q n, ux_ye en 0 v1 q n ∧ kd n ≠ 1) → wpX_spawn (fun r u' => wpY_spawn (fun r' v' => r' = r ∧ i_Rel (k + 4) u' v') ((nI m), ex, (nI c), go, kd, (ux_LN kd ns), wo, (ux_EN en), np, st, qp, sp, pn, pg, rg, (ux_ED ds), pc, fi, ow, po, pl, pw, qu, ou) v1 v2) (nI m, nI c, ex, kd, ns, np, wo, en, st, pp, sp, pc, pg, pn, rg, ds, fi, ow, po, pw, pl, qu, ou) v1 v2 := by
    intro hw
    have hY : wpY_spawn (fun r' v' => r' = -1000000 ∧ i_Rel (k + 4) (nI m, nI c, ex, kd, ns, np, wo, en, st, pp, sp, pc, pg, pn, rg, ds, fi, ow, po, pw, pl, qu, ou) v') ((nI m), ex, (nI c), go, kd, (ux_LN kd ns), wo, (ux_EN en), np, st, qp, sp, pn, pg, rg, (ux_ED ds), pc, fi, ow, po, pl, pw, qu, ou) v1 v2 := by
      unfold wpY_spawn
      rcases ux_ls (fun j => st j = 0) 5 with ⟨p, hp, h0, hj⟩ | hno
      · refine ya_fp hp h0 hj ?_
        rcases ux_noye hF.2.1 (d := 0) (by omega) v1 with hn | ⟨q, n, hye, hk0, _⟩
        · exact ya_nmN (d := 0) (by omega) hn (br_f (nI_pos (by omega)) (br_t (by decide) ⟨rfl, I4⟩))
        · have hn := hye.2.2.2.1
          refine ya_nmY (d := 0) (by omega) hye (br_f (nI_pos (by omega)) (br_f (nI_pos (by omega)) ⟨vp_in_nI hn (by decide), ?_⟩))
          rw [ux_c (n := n) (by omega)]
          have h1 : kd n ≠ 1 := by
            rcases hw with z | z | ⟨q2, n2, hye2, hk⟩
            · exact absurd h0 (z p hp)
            · exfalso
              rcases z with ⟨q2, g1, g2, g3⟩ | hr
              · have e1 := hye.2.1
                rw [g2] at e1
                have e2 := ux_inj e1 (by omega) (by have := hye.1; omega)
                have e3 := hye.2.2.2.2
                rw [← e2, g3] at e3
                exact ux_nz hye.2.2.1 (by omega) e3.symm
              · have e1 := hye.2.1
                have h15 := hye.1
                rw [e1] at hr
                rcases hr with hr | ⟨_, hr⟩
                · exact nI_pos (by omega) hr
                · exact nI_ge h15 (by omega) hr
            · have e1 := hye2.2.1
              rw [hye.2.1] at e1
              have e2 := ux_inj e1 (by have := hye.1; omega) (by have := hye2.1; omega)
              have e3 := hye2.2.2.2.2
              rw [← e2, hye.2.2.2.2] at e3
              rw [ux_inj e3 (by omega) (by have := hye2.2.2.2.1; omega)]
              exact hk
          exact br_f h1 ⟨rfl, I4⟩
      · refine ya_fp0 hno ?_
        rcases ux_noye hF.2.1 (d := 0) (by omega) v1 with hn | ⟨q, n, hye, hk0, _⟩
        · exact ya_nmN (d := 0) (by omega) hn (br_t (by decide) ⟨rfl, I4⟩)
        · exact ya_nmY (d := 0) (by omega) hye (br_t (by decide) ⟨rfl, I4⟩)
    unfold wpX_spawn
    rcases ux_ls (fun j => st j = 0) 5 with ⟨p, hp, h0, hj⟩ | hno
    · refine xa_fp hp h0 hj ?_
      rcases hw with z | z | ⟨q, n, hye, h1⟩
      · exact absurd h0 (z p hp)
      · exact xa_fnN (d := 0) (by omega) z hF.1.1 (br_f (nI_pos (by omega)) (br_t rfl hY))
      · exact xa_fnD (d := 0) (by omega) hye h1 (br_f (nI_pos (by omega)) (br_t rfl hY))
    · refine xa_fp0 hno ?_
      rcases ux_noye hF.2.1 (d := 0) (by omega) v1 with hn | ⟨q, n, hye, hk0, _⟩
      · exact xa_fnN (d := 0) (by omega) hn hF.1.1 (br_t (by decide) hY)
      · by_cases h1 : kd n = 1
        · exact xa_fnY (d := 0) (by omega) hye h1 (br_t (by decide) hY)
        · exact xa_fnD (d := 0) (by omega) hye h1 (br_t (by decide) hY)
  rcases ux_ls (fun j => st j = 0) 5 with ⟨p, hp, h0, hj⟩ | hno
  · rcases ux_noye hF.2.1 (d := 0) (by omega) v1 with hn | ⟨q, n, hye, hk0, _⟩
    · exact hbad (Or.inr (Or.inl hn))
    · by_cases h1 : kd n = 1
      · have hn := hye.2.2.2.1
        have hn0 := hye.2.2.1
        obtain ⟨g, hg, eg⟩ := (hF.2.2.2.2 n hn).2 h1
        obtain ⟨hm, hJ2⟩ := ux_J_spawn (q := g) hJ hp h0 hg
        have iv : vp_in (nI p) 5 := vp_in_nI hp (by decide)
        have cl : (nI p).toNatClampNeg = p := ux_c (by omega)
        have cn : (nI n).toNatClampNeg = n := ux_c (by omega)
        have eL : ux_LN kd ns n = ns n := ux_LN_f (by rw [h1]; exact ux_n12)
        have hED : ∀ i, i < 4 → ux_ED ds (p * 4 + i) = 0 := fun i hi => (ux_ED0 hD (by omega)).mpr (hZ p i hp hi (Or.inl h0))
        have hA : i_Rel (k + 4) (nI (m + 1), nI c, ex, kd, ns, np, wo, en, upd st p 1, upd pp p (-1), upd sp p 0, upd pc p 0, ux_cw pg wo (p * 20) (n * 20) 20, upd pn p (ns n), upd (ux_zp rg p) (p * 4) v2, ds, fi, ow, po, pw, pl, upd qu m (nI p), ou) ((nI (m + 1)), ex, (nI c), go, kd, (ux_LN kd ns), wo, (ux_EN en), np, (upd st p 1), (upd qp p (-1)), (upd sp p 0), (upd pn p (ns n)), (ux_cw pg wo (p * 20) (n * 20) 20), (upd (ux_zp rg p) (p * 4) v2), (ux_ED ds), (upd pc p 0), fi, ow, po, pl, pw, (upd qu m (nI p)), ou) := by
          rw [eg]
          exact ux_Ai (ux_J_mono hJ2 (by omega))
        unfold wpX_spawn
        refine xa_fp hp h0 hj (xa_fnY (d := 0) (by omega) hye h1 (br_f (nI_pos (by omega)) (br_f (ux_nz hn0 (by omega)) ⟨iv, ?_⟩)))
        rw [cl]
        refine nm_e ⟨iv, nm_e ⟨iv, nm_e ⟨5, xs_sp hp hn hm ?_ 4 0 (by omega)⟩⟩⟩
        unfold wpY_spawn
        refine ya_fp hp h0 hj (ya_nmY (d := 0) (by omega) hye (br_f (nI_pos (by omega)) (br_f (nI_pos (by omega)) ⟨vp_in_nI hn (by decide), br_t (by rw [cn]; exact h1) (ya_ld hp hn ⟨iv, ?_⟩)⟩)))
        rw [cl]
        refine nm_e ⟨iv, nm_e (nm_r (e' := nI (p * 4 + 0)) (by rw [ux_l_mul, Nat.mul_comm]; rfl) ⟨5, ya_sp hp (by omega) hED ⟨rfl, ?_⟩⟩)⟩
        rw [← ux_sprg, eL]
        exact hA
      · exact hbad (Or.inr (Or.inr ⟨q, n, hye, h1⟩))
  · exact hbad (Or.inl hno)
theorem i_vc_file {k : Nat} {u : SX} {v : SY} (I : i_Rel k u v) (hk : k + 4 ≤ 2048) (v1 : Int32) (v2 : Int32) (v3 : Int32) : wpX_file (fun r u' => wpY_file (fun r' v' => r' = r ∧ i_Rel (k + 4) u' v') v v1 v2 v3) u v1 v2 v3 := by
  have I4 := i_up I
  obtain ⟨ex, kd, ns, np, wo, en, st, pp, sp, pc, pg, pn, rg, ds, fi, ow, po, pw, pl, qu, ou, qp, go, m, c, rfl, rfl, hJ⟩ := I
  obtain ⟨hF, hD, hO, hZ, hR, hU, hI, hL, hB⟩ := id hJ
  have eS := ((hF.2.2.2.2 0 (by omega)).1 hF.1.1).1
  rcases ux_rg v1 15 (by decide) with ⟨a, ha, rfl⟩ | hr
  · rcases ux_rg v2 20 (by decide) with ⟨q, hq, rfl⟩ | hr2
    · have ca : (nI a).toNatClampNeg = a := ux_c (by omega)
      have v150 : vp_in (nI a) 150 := vp_in_nI (by omega) (by decide)
      have e0a : 0 * 15 + a = a := by omega
      have hY : ∀ (x : Int32) (u' : SX) (y : Int32), ux_EN en a = y → ((y < 0 → wY_file_52 (fun r' v' => r' = x ∧ i_Rel (k + 4) u' v') (nI a) (nI q) v3 y (nI m) ex (nI c) go kd (ux_LN kd ns) wo (ux_EN en) np st qp sp pn pg rg (ux_ED ds) pc fi ow po pl pw qu ou) ∧ (¬ y < 0 → (vp_in y 10 ∧ ((kd y.toNatClampNeg = 2 → -1000000 = x ∧ i_Rel (k + 4) u' ((nI m), ex, (nI c), go, kd, (ux_LN kd ns), wo, (ux_EN en), np, st, qp, sp, pn, pg, rg, (ux_ED ds), pc, fi, ow, po, pl, pw, qu, ou)) ∧ (¬ kd y.toNatClampNeg = 2 → wY_file_52 (fun r' v' => r' = x ∧ i_Rel (k + 4) u' v') (nI a) (nI q) v3 y (nI m) ex (nI c) go kd (ux_LN kd ns) wo (ux_EN en) np st qp sp pn pg rg (ux_ED ds) pc fi ow po pl pw qu ou))))) → wpY_file (fun r' v' => r' = x ∧ i_Rel (k + 4) u' v') ((nI m), ex, (nI c), go, kd, (ux_LN kd ns), wo, (ux_EN en), np, st, qp, sp, pn, pg, rg, (ux_ED ds), pc, fi, ow, po, pl, pw, qu, ou) (nI a) (nI q) v3 := by
        intro x u' y ey hy
        unfold wpY_file
        refine ya_inN (b := 0) (e := 14) (by omega) (by omega) (by omega) (br_f (by decide) (ya_inN (b := 0) (e := 19) (by omega) (by omega) (by omega) (br_f (by decide) ⟨v150, ?_⟩)))
        rw [ca]
        exact nm_r ey hy
      unfold wpX_file
      refine br_f (nI_pos (by omega)) (br_f (nI_ge (b := 15) ha (by decide)) (br_f (nI_pos (by omega)) (br_t (nI_lt (b := 20) hq (by decide)) ?_)))
      by_cases h0 : en (0 * 15 + a) = 0
      · have ey : ux_EN en a = -1 := by rw [← e0a]; exact ux_EN_0 (by omega) h0
        refine xa_fnN (d := 0) (by omega) (Or.inl ⟨a, ha, rfl, h0⟩) hF.1.1 (br_t rfl ?_)
        rcases ux_CEN hF 0 (nI a) with ⟨a2, n, hc⟩ | hc
        · have ea2 : a2 = a := (ux_inj hc.2.1 (by omega) (by have := hc.1; omega)).symm
          subst ea2
          obtain ⟨_, _, _, h4, h5, h6, h7, h8⟩ := id hc
          have h0n : (0 : Nat) ≠ n := by omega
          by_cases hq0 : q = 0
          · subst hq0
            refine br_t rfl (xa_mk1 (d := 0) (by omega) eS hc (xa_f49y (g := 0) h4 h5 (by omega) (by omega) ?_ (by omega) (fun _ => ?_) (fun z => absurd rfl z)))
            · rw [ux_un (f := upd ns n 0) (Ne.symm h0n), ux_us]; rfl
            · refine hY _ _ _ ey (br_t (by decide) (br_f (by decide) (ya_ce1 (d := 0) hF.2.1 (by omega) hc (br_f (by decide) (br_f (by decide) (br_t (by decide) (br_f (by decide) ?_)))))))
              refine ya_nw (d := 0) hF.2.1 (by omega) hc (ya_f106 (g := 0) h5 (by omega) (by omega) (by rw [ux_us]; rfl) (fun _ => ⟨rfl, ?_⟩) (fun z => absurd rfl z))
              have hJ3 := ux_J_ns (n := n) (q := 0 + 1) (ux_J_new (d := 0) (t := 1) hJ h4 h5 h6 (by omega) hF.1.1 ha h0 h8 (Or.inl rfl)) ux_us (by omega)
              have hA := ux_Ai (ex := ex) (wo := upd wo (n * 20 + 0) v3) (sp := sp) (pg := pg) (rg := rg) (pw := pw) (ou := ou) (go := go) (ux_J_mono (C := 60 * (k + 4)) hJ3 (by omega))
              rw [ux_LN_u (by rw [ux_us]; exact ux_n12), ux_LN_new (by rw [h6]; exact ux_n02) hF.1.1] at hA
              exact hA
          · refine br_f (ux_nz (by omega) (by omega)) (br_t rfl (hY _ _ _ ey (br_t (by decide) (br_f (by decide) (ya_ce1 (d := 0) hF.2.1 (by omega) hc (br_f (by decide) (br_f (by decide) (br_f ?_ ⟨rfl, I4⟩))))))))
            exact nI_nle (by omega) (by omega)
        · have hYb : wpY_file (fun r' v' => r' = -1000000 ∧ i_Rel (k + 4) (nI m, nI c, ex, kd, ns, np, wo, en, st, pp, sp, pc, pg, pn, rg, ds, fi, ow, po, pw, pl, qu, ou) v') ((nI m), ex, (nI c), go, kd, (ux_LN kd ns), wo, (ux_EN en), np, st, qp, sp, pn, pg, rg, (ux_ED ds), pc, fi, ow, po, pl, pw, qu, ou) (nI a) (nI q) v3 :=
            hY _ _ _ ey (br_t (by decide) (br_f (by decide) (ya_ce0 (d := 0) hF.2.1 (by omega) hc (br_t rfl ⟨rfl, I4⟩))))
          by_cases hq0 : q = 0
          · subst hq0
            exact br_t rfl (xa_mk0 (d := 0) hF (by omega) hF.1.1 hc (br_t rfl hYb))
          · exact br_f (ux_nz (by omega) (by omega)) (br_t rfl hYb)
      · rcases ux_noye hF.2.1 (d := 0) (by omega) (nI a) with hno | ⟨a2, n, hye, hk0, _⟩
        · exfalso
          rcases hno with ⟨a2, g1, g2, g3⟩ | hr
          · rw [← ux_inj g2 (by omega) (by omega)] at g3
            exact h0 g3
          · rcases hr with hr | ⟨_, hr⟩
            · exact nI_pos (by omega) hr
            · exact nI_ge ha (by omega) hr
        · have ea2 : a2 = a := (ux_inj hye.2.1 (by omega) (by have := hye.1; omega)).symm
          subst ea2
          obtain ⟨_, _, hn0, hn, he⟩ := id hye
          have ey : ux_EN en a2 = nI n := by
            rw [← e0a, ux_EN_1 (by omega) h0]; exact he
          have cn : (nI n).toNatClampNeg = n := ux_c (by omega)
          have vn : vp_in (nI n) 10 := vp_in_nI hn (by decide)
          by_cases h1 : kd n = 1
          · obtain ⟨g, hg, eg⟩ := (hF.2.2.2.2 n hn).2 h1
            have eL : ux_LN kd ns n = nI g := by rw [ux_LN_f (by rw [h1]; exact ux_n12), eg]
            have h12 : ¬ kd n = 2 := by rw [h1]; exact ux_n12
            have hY2 : ∀ (x : Int32) (u' : SX), wY_file_86 (fun r' v' => r' = x ∧ i_Rel (k + 4) u' v') (nI a2) (nI q) v3 (nI n) (nI g) (nI q) (nI m) ex (nI c) go kd (ux_LN kd ns) wo (ux_EN en) np st qp sp pn pg rg (ux_ED ds) pc fi ow po pl pw qu ou → wpY_file (fun r' v' => r' = x ∧ i_Rel (k + 4) u' v') ((nI m), ex, (nI c), go, kd, (ux_LN kd ns), wo, (ux_EN en), np, st, qp, sp, pn, pg, rg, (ux_ED ds), pc, fi, ow, po, pl, pw, qu, ou) (nI a2) (nI q) v3 := by
              intro x u' hx
              refine hY x u' _ ey (br_f (nI_pos (by omega)) ⟨vn, br_f (by rw [cn]; exact h12) (br_t (nI_pos' (by omega)) (br_t (nI_pos' (by omega)) ⟨vn, ?_⟩))⟩)
              rw [cn, eL]
              exact hx
            refine xa_fnY (d := 0) (by omega) hye h1 (br_f (ux_nz hn0 (by omega)) ?_)
            by_cases hle : q ≤ g
            · refine xa_f49y hn0 hn hq hg eg hle (fun e => ?_) (fun e => ?_)
              · refine hY2 _ _ (br_t (nI_le hle (by omega)) (br_t (nI_pos' (by omega)) (ya_f106 hn hq hg eL (fun _ => ⟨rfl, ?_⟩) (fun z => absurd e z))))
                have hA := ux_Ai (ex := ex) (wo := upd wo (n * 20 + q) v3) (sp := sp) (pg := pg) (rg := rg) (pw := pw) (ou := ou) (go := go) (ux_J_mono (C := 60 * (k + 4)) (ux_J_ns (q := q + 1) hJ h1 (by omega)) (by omega))
                rw [ux_LN_u h12] at hA
                exact hA
              · refine hY2 _ _ (br_t (nI_le hle (by omega)) (br_t (nI_pos' (by omega)) (ya_f106 hn hq hg eL (fun z => absurd z e) (fun _ => ⟨rfl, ?_⟩))))
                exact ux_Ai (ux_J_mono (C := 60 * (k + 4)) hJ (by omega))
            · exact xa_f49n hn0 hn hq eg (by omega) (hY2 _ _ (br_f (nI_ge (by omega) (by omega)) ⟨rfl, I4⟩))
          · have h2 : kd n = 2 := by
              rcases hF.1.2 n hn with z | z | z
              · exact absurd z hk0
              · exact absurd z h1
              · exact z
            have hYb : wpY_file (fun r' v' => r' = -1000000 ∧ i_Rel (k + 4) (nI m, nI c, ex, kd, ns, np, wo, en, st, pp, sp, pc, pg, pn, rg, ds, fi, ow, po, pw, pl, qu, ou) v') ((nI m), ex, (nI c), go, kd, (ux_LN kd ns), wo, (ux_EN en), np, st, qp, sp, pn, pg, rg, (ux_ED ds), pc, fi, ow, po, pl, pw, qu, ou) (nI a2) (nI q) v3 :=
              hY _ _ _ ey (br_f (nI_pos (by omega)) ⟨vn, br_t (by rw [cn]; exact h2) ⟨rfl, I4⟩⟩)
            refine xa_fnD (d := 0) (by omega) hye h1 (br_t rfl ?_)
            by_cases hq0 : q = 0
            · subst hq0
              exact br_t rfl (xa_mk0 (d := 0) hF (by omega) hF.1.1 (Or.inr ⟨a2, ha, rfl, Or.inl h0⟩) (br_t rfl hYb))
            · exact br_f (ux_nz (by omega) (by omega)) (br_t rfl hYb)
    · have hY : wpY_file (fun r' v' => r' = -1000000 ∧ i_Rel (k + 4) (nI m, nI c, ex, kd, ns, np, wo, en, st, pp, sp, pc, pg, pn, rg, ds, fi, ow, po, pw, pl, qu, ou) v') ((nI m), ex, (nI c), go, kd, (ux_LN kd ns), wo, (ux_EN en), np, st, qp, sp, pn, pg, rg, (ux_ED ds), pc, fi, ow, po, pl, pw, qu, ou) (nI a) v2 v3 := by
        unfold wpY_file
        exact ya_inN (b := 0) (e := 14) (by omega) (by omega) (by omega) (br_f (by decide) (ya_inR 19 (by omega) hr2 (br_t rfl ⟨rfl, I4⟩)))
      refine br_f (nI_pos (by omega)) (br_f (nI_ge (b := 15) ha (by decide)) ?_)
      rcases hr2 with h1 | ⟨h1, h2⟩
      · exact br_t h1 hY
      · exact br_f h1 (br_f (ux_hi h2) hY)
  · have hY : wpY_file (fun r' v' => r' = -1000000 ∧ i_Rel (k + 4) (nI m, nI c, ex, kd, ns, np, wo, en, st, pp, sp, pc, pg, pn, rg, ds, fi, ow, po, pw, pl, qu, ou) v') ((nI m), ex, (nI c), go, kd, (ux_LN kd ns), wo, (ux_EN en), np, st, qp, sp, pn, pg, rg, (ux_ED ds), pc, fi, ow, po, pl, pw, qu, ou) v1 v2 v3 := by
      unfold wpY_file
      exact ya_inR 14 (by omega) hr (br_t rfl ⟨rfl, I4⟩)
    rcases hr with h1 | ⟨h1, h2⟩
    · exact br_t h1 hY
    · exact br_f h1 (br_t h2 hY)
end UX30
