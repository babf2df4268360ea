section UX28
def i_Rel (k : Nat) (u : SX) (v : SY) : Prop := ux_A (60 * k) u v
theorem i_up {k : Nat} {u : SX} {v : SY} (h : i_Rel k u v) : i_Rel (k + 4) u v := ux_A_mono h (by omega)
theorem ux_rgO {x : Int32} {n : Nat} (h : x < 0 ∨ (¬ x < 0 ∧ nI n ≤ x)) : x < 0 ∨ (¬ x < 0 ∧ ¬ x < nI n) := by
  rcases h with h | ⟨h, h2⟩
  · exact Or.inl h
  · exact Or.inr ⟨h, ux_hi h2⟩
theorem i_vc_state {k : Nat} {u : SX} {v : SY} (I : i_Rel k u v) (hk : k + 4 ≤ 2048) (v1 : Int32) : wpX_state (fun r => wpY_state (fun r' => r' = r ∧ i_Rel (k + 4) u v) v v1) u v1 := by
  have I4 := i_up I
  obtain ⟨ex, kd, ns, np, wo, en, st, pp, sp, pc, pg, pn, rg, ds, fi, ow, po, pw, pl, qu, ou, qp, go, m, c, rfl, rfl, hJ⟩ := I
  rcases ux_rg v1 5 (by decide) with ⟨p, hp, rfl⟩ | hr
  · have iv : vp_in (nI p) 5 := vp_in_nI hp (by decide)
    refine br_f (nI_pos (by omega)) (br_t (nI_lt (b := 5) hp (by decide)) ⟨iv, ?_⟩)
    unfold wpY_state
    exact ya_inN (b := 0) (e := 4) (by omega) (by omega) (by omega) (br_f (by decide) ⟨iv, rfl, I4⟩)
  · have hY : wpY_state (fun r' => r' = -1000000 ∧ i_Rel (k + 4) (nI m, nI c, ex, kd, ns, np, wo, en, st, pp, sp, pc, pg, pn, rg, ds, fi, ow, po, pw, pl, qu, ou) ((nI m), ex, (nI c), go, kd, (ux_LN kd ns), wo, (ux_EN en), np, st, qp, sp, pn, pg, rg, (ux_ED ds), pc, fi, ow, po, pl, pw, qu, ou)) ((nI m), ex, (nI c), go, kd, (ux_LN kd ns), wo, (ux_EN en), np, st, qp, sp, pn, pg, rg, (ux_ED ds), pc, fi, ow, po, pl, pw, qu, ou) v1 := by
      unfold wpY_state
      exact ya_inR 4 (by omega) hr (br_t rfl ⟨rfl, I4⟩)
    rcases hr with h1 | ⟨h1, h2⟩
    · exact br_t h1 hY
    · exact br_f h1 (br_f (ux_hi h2) hY)
theorem i_vc_spot {k : Nat} {u : SX} {v : SY} (I : i_Rel k u v) (hk : k + 4 ≤ 2048) (v1 : Int32) : wpX_spot (fun r => wpY_spot (fun r' => r' = r ∧ i_Rel (k + 4) u v) v v1) u v1 := by
  have I4 := i_up I
  obtain ⟨ex, kd, ns, np, wo, en, st, pp, sp, pc, pg, pn, rg, ds, fi, ow, po, pw, pl, qu, ou, qp, go, m, c, rfl, rfl, hJ⟩ := I
  rcases ux_rg v1 5 (by decide) with ⟨p, hp, rfl⟩ | hr
  · have iv : vp_in (nI p) 5 := vp_in_nI hp (by decide)
    have cl : (nI p).toNatClampNeg = p := ux_c (by omega)
    refine br_f (nI_pos (by omega)) (br_f (nI_ge (b := 5) hp (by decide)) ⟨iv, ?_⟩)
    rw [cl]
    by_cases h0 : st p = 0
    · refine br_t h0 ?_
      unfold wpY_spot
      exact ya_inN (b := 0) (e := 4) (by omega) (by omega) (by omega) (br_f (by decide) ⟨iv, br_t (by rw [cl]; exact h0) ⟨rfl, I4⟩⟩)
    · refine br_f h0 ⟨iv, ?_⟩
      unfold wpY_spot
      exact ya_inN (b := 0) (e := 4) (by omega) (by omega) (by omega) (br_f (by decide) ⟨iv, br_f (by rw [cl]; exact h0) ⟨iv, by rw [cl], I4⟩⟩)
  · have hY : wpY_spot (fun r' => r' = -1000000 ∧ i_Rel (k + 4) (nI m, nI c, ex, kd, ns, np, wo, en, st, pp, sp, pc, pg, pn, rg, ds, fi, ow, po, pw, pl, qu, ou) ((nI m), ex, (nI c), go, kd, (ux_LN kd ns), wo, (ux_EN en), np, st, qp, sp, pn, pg, rg, (ux_ED ds), pc, fi, ow, po, pl, pw, qu, ou)) ((nI m), ex, (nI c), go, kd, (ux_LN kd ns), wo, (ux_EN en), np, st, qp, sp, pn, pg, rg, (ux_ED ds), pc, fi, ow, po, pl, pw, qu, ou) v1 := by
      unfold wpY_spot
      exact ya_inR 4 (by omega) hr (br_t rfl ⟨rfl, I4⟩)
    rcases hr with h1 | ⟨h1, h2⟩
    · exact br_t h1 hY
    · exact br_f h1 (br_t h2 hY)
theorem i_vc_register {k : Nat} {u : SX} {v : SY} (I : i_Rel k u v) (hk : k + 4 ≤ 2048) (v1 : Int32) (v2 : Int32) : wpX_register (fun r => wpY_register (fun r' => r' = r ∧ i_Rel (k + 4) u v) v v1 v2) u v1 v2 := by
  have I4 := i_up I
  obtain ⟨ex, kd, ns, np, wo, en, st, pp, sp, pc, pg, pn, rg, ds, fi, ow, po, pw, pl, qu, ou, qp, go, m, c, rfl, rfl, hJ⟩ := I
  rcases ux_al hJ.2.2.2.2.1 v1 with ⟨p, hp, rfl, hs⟩ | hd
  · unfold wpX_register
    refine xa_al1 hp hs (br_f (by decide) ?_)
    rcases ux_rg v2 4 (by decide) with ⟨a, ha, rfl⟩ | hr
    · have x4 : nI p * 4 + nI a = nI (p * 4 + a) := by rw [ux_mul_l, nI_add]
      have y4 : 4 * nI p + nI a = nI (p * 4 + a) := by rw [ux_l_mul, nI_add, Nat.mul_comm]
      have va : vp_in (nI (p * 4 + a)) 20 := vp_in_nI (by omega) (by decide)
      refine br_f (nI_pos (by omega)) (br_t (nI_lt (b := 4) ha (by decide)) ?_)
      rw [x4]
      refine ⟨va, ?_⟩
      unfold wpY_register
      refine ya_lv1 hp hs (br_f (by decide) (ya_inN (b := 0) (e := 3) (by omega) (by omega) (by omega) (br_f (by decide) ?_)))
      rw [y4]
      exact ⟨va, rfl, I4⟩
    · have hY : wpY_register (fun r' => r' = 0 ∧ i_Rel (k + 4) (nI m, nI c, ex, kd, ns, np, wo, en, st, pp, sp, pc, pg, pn, rg, ds, fi, ow, po, pw, pl, qu, ou) ((nI m), ex, (nI c), go, kd, (ux_LN kd ns), wo, (ux_EN en), np, st, qp, sp, pn, pg, rg, (ux_ED ds), pc, fi, ow, po, pl, pw, qu, ou)) ((nI m), ex, (nI c), go, kd, (ux_LN kd ns), wo, (ux_EN en), np, st, qp, sp, pn, pg, rg, (ux_ED ds), pc, fi, ow, po, pl, pw, qu, ou) (nI p) v2 := by
        unfold wpY_register
        exact ya_lv1 hp hs (br_f (by decide) (ya_inR 3 (by omega) hr (br_t rfl ⟨rfl, I4⟩)))
      rcases hr with h1 | ⟨h1, h2⟩
      · exact br_t h1 hY
      · exact br_f h1 (br_f (ux_hi h2) hY)
  · unfold wpX_register
    rcases hd with hr | ⟨p, hp, rfl, h1, h2⟩
    · refine xa_alO hr (br_t rfl ?_)
      unfold wpY_register
      exact ya_lvO hr (br_t rfl ⟨rfl, I4⟩)
    · refine xa_al0 hp h1 h2 (br_t rfl ?_)
      unfold wpY_register
      exact ya_lv0 hp h1 h2 (br_t rfl ⟨rfl, I4⟩)
theorem i_vc_descriptor {k : Nat} {u : SX} {v : SY} (I : i_Rel k u v) (hk : k + 4 ≤ 2048) (v1 : Int32) (v2 : Int32) : wpX_descriptor (fun r => wpY_descriptor (fun r' => r' = r ∧ i_Rel (k + 4) u v) v v1 v2) u v1 v2 := by
  have I4 := i_up I
  obtain ⟨ex, kd, ns, np, wo, en, st, pp, sp, pc, pg, pn, rg, ds, fi, ow, po, pw, pl, qu, ou, qp, go, m, c, rfl, rfl, hJ⟩ := I
  have hD := hJ.2.1
  rcases ux_al hJ.2.2.2.2.1 v1 with ⟨p, hp, rfl, hs⟩ | hd
  · unfold wpX_descriptor
    refine xa_al1 hp hs (br_f (by decide) ?_)
    rcases ux_rg v2 4 (by decide) with ⟨a, ha, rfl⟩ | hr
    · have y4 : 4 * nI p + nI a = nI (p * 4 + a) := by rw [ux_l_mul, nI_add, Nat.mul_comm]
      have va : vp_in (nI (p * 4 + a)) 20 := vp_in_nI (by omega) (by decide)
      have ca : (nI (p * 4 + a)).toNatClampNeg = p * 4 + a := ux_c (by omega)
      have hY : ∀ x : Int32, (∀ x3, x3 = ux_cv (ds (p * 4 + a)) → ((x3 ≤ 200 → ((x3 ≤ 100 → ((x3 = 0 → (0 : Int32) = x ∧ i_Rel (k + 4) (nI m, nI c, ex, kd, ns, np, wo, en, st, pp, sp, pc, pg, pn, rg, ds, fi, ow, po, pw, pl, qu, ou) ((nI m), ex, (nI c), go, kd, (ux_LN kd ns), wo, (ux_EN en), np, st, qp, sp, pn, pg, rg, (ux_ED ds), pc, fi, ow, po, pl, pw, qu, ou)) ∧ (¬ x3 = 0 → (vp_in (x3 - 1) 8 ∧ ((1 + (16 * po (x3 - 1).toNatClampNeg)) + (512 * (x3 - 1)) = x ∧ i_Rel (k + 4) (nI m, nI c, ex, kd, ns, np, wo, en, st, pp, sp, pc, pg, pn, rg, ds, fi, ow, po, pw, pl, qu, ou) ((nI m), ex, (nI c), go, kd, (ux_LN kd ns), wo, (ux_EN en), np, st, qp, sp, pn, pg, rg, (ux_ED ds), pc, fi, ow, po, pl, pw, qu, ou)))))) ∧ (¬ x3 ≤ 100 → ((4096 + x3) - 101 = x ∧ i_Rel (k + 4) (nI m, nI c, ex, kd, ns, np, wo, en, st, pp, sp, pc, pg, pn, rg, ds, fi, ow, po, pw, pl, qu, ou) ((nI m), ex, (nI c), go, kd, (ux_LN kd ns), wo, (ux_EN en), np, st, qp, sp, pn, pg, rg, (ux_ED ds), pc, fi, ow, po, pl, pw, qu, ou))))) ∧ (¬ x3 ≤ 200 → ((8192 + x3) - 201 = x ∧ i_Rel (k + 4) (nI m, nI c, ex, kd, ns, np, wo, en, st, pp, sp, pc, pg, pn, rg, ds, fi, ow, po, pw, pl, qu, ou) ((nI m), ex, (nI c), go, kd, (ux_LN kd ns), wo, (ux_EN en), np, st, qp, sp, pn, pg, rg, (ux_ED ds), pc, fi, ow, po, pl, pw, qu, ou))))) →
          wpY_descriptor (fun r' => r' = x ∧ i_Rel (k + 4) (nI m, nI c, ex, kd, ns, np, wo, en, st, pp, sp, pc, pg, pn, rg, ds, fi, ow, po, pw, pl, qu, ou) ((nI m), ex, (nI c), go, kd, (ux_LN kd ns), wo, (ux_EN en), np, st, qp, sp, pn, pg, rg, (ux_ED ds), pc, fi, ow, po, pl, pw, qu, ou)) ((nI m), ex, (nI c), go, kd, (ux_LN kd ns), wo, (ux_EN en), np, st, qp, sp, pn, pg, rg, (ux_ED ds), pc, fi, ow, po, pl, pw, qu, ou) (nI p) (nI a) := by
        intro x hx
        unfold wpY_descriptor
        refine ya_lv1 hp hs (br_f (by decide) (ya_inN (b := 0) (e := 3) (by omega) (by omega) (by omega) (br_f (by decide) ?_)))
        rw [y4, ca]
        exact ⟨va, hx⟩
      refine xa_ha hp (Or.inl ⟨a, ha, rfl, rfl⟩) ?_
      rcases hD (p * 4 + a) (by omega) with h | ⟨o, ho, h⟩ | ⟨q, hq, h⟩ | ⟨q, hq, h⟩
      · rw [h]
        refine xa_io0 (a := 0) (by omega) (by omega) (br_t rfl (hY _ ?_))
        rw [h, ux_cv0]
        exact nm_e (br_t (by decide) (br_t (by decide) (br_t rfl ⟨rfl, I4⟩)))
      · rw [h]
        refine xa_io1 (by omega) (by omega) (br_f (by decide) (nm_r (ux_so o) ⟨vp_in_nI ho (by decide), hY _ ?_⟩))
        rw [h, ux_cvo o ho]
        refine nm_e (br_t (nI_le (b := 200) (by omega) (by decide)) (br_t (nI_le (b := 100) (by omega) (by decide)) (br_f (ux_nz (by omega) (by omega)) ?_)))
        rw [ux_so o]
        exact ⟨vp_in_nI ho (by decide), rfl, I4⟩
      · rw [h]
        refine xa_io0 (by omega) (by omega) (br_t rfl (hY _ ?_))
        rw [h, ux_cvr q hq]
        refine nm_e (br_t (nI_le (b := 200) (by omega) (by decide)) (br_f (nI_ge (a := 100) (by omega) (by omega)) ⟨?_, I4⟩))
        have e : ∀ q, q < 2 → (4096 + nI (101 + q)) - 101 = nI (4096 + q) := by decide +kernel
        exact e q hq
      · rw [h]
        refine xa_io0 (by omega) (by omega) (br_t rfl (hY _ ?_))
        rw [h, ux_cvw q hq]
        refine nm_e (br_f (nI_ge (a := 200) (by omega) (by omega)) ⟨?_, I4⟩)
        have e : ∀ q, q < 2 → (8192 + nI (201 + q)) - 201 = nI (8192 + q) := by decide +kernel
        exact e q hq
    · refine xa_ha hp (Or.inr ⟨hr, rfl⟩) (xa_io0 (a := 0) (by omega) (by omega) (br_t rfl ?_))
      unfold wpY_descriptor
      exact ya_lv1 hp hs (br_f (by decide) (ya_inR 3 (by omega) hr (br_t rfl ⟨rfl, I4⟩)))
  · unfold wpX_descriptor
    rcases hd with hr | ⟨p, hp, rfl, h1, h2⟩
    · refine xa_alO hr (br_t rfl ?_)
      unfold wpY_descriptor
      exact ya_lvO hr (br_t rfl ⟨rfl, I4⟩)
    · refine xa_al0 hp h1 h2 (br_t rfl ?_)
      unfold wpY_descriptor
      exact ya_lv0 hp h1 h2 (br_t rfl ⟨rfl, I4⟩)
end UX28
section UX28B
variable {ql pr : Int32} {ex : Int64} {kd ns np wo en st pp sp pc pg pn rg ds fi ow po pw pl qu ou : Nat → Int32}
variable {post : Int32 → Prop} {n : Nat} {r : Int32}
theorem xa_no1 (hn : n < 10) (h : post 1) : wpX_isNode post (ql, pr, ex, kd, ns, np, wo, en, st, pp, sp, pc, pg, pn, rg, ds, fi, ow, po, pw, pl, qu, ou) (nI n) := br_f (nI_pos (by omega)) (br_f (nI_ge (b := 10) hn (by decide)) h)
theorem xa_no0 (hr : r < 0 ∨ (¬ r < 0 ∧ nI 10 ≤ r)) (h : post 0) : wpX_isNode post (ql, pr, ex, kd, ns, np, wo, en, st, pp, sp, pc, pg, pn, rg, ds, fi, ow, po, pw, pl, qu, ou) r := by
  rcases hr with h1 | ⟨h1, h2⟩
  · exact br_t h1 h
  · exact br_f h1 (br_t h2 h)
end UX28B
section UX28C
theorem i_vc_kind {k : Nat} {u : SX} {v : SY} (I : i_Rel k u v) (hk : k + 4 ≤ 2048) (v1 : Int32) : wpX_kind (fun r => wpY_kind (fun r' => r' = r ∧ i_Rel (k + 4) u v) v v1) u v1 := by
  have I4 := i_up I
  obtain ⟨ex, kd, ns, np, wo, en, st, pp, sp, pc, pg, pn, rg, ds, fi, ow, po, pw, pl, qu, ou, qp, go, m, c, rfl, rfl, hJ⟩ := I
  unfold wpX_kind
  rcases ux_rg v1 10 (by decide) with ⟨n, hn, rfl⟩ | hr
  · have vn : vp_in (nI n) 10 := vp_in_nI hn (by decide)
    refine xa_no1 hn (br_f (by decide) ⟨vn, ?_⟩)
    unfold wpY_kind
    exact ya_inN (b := 0) (e := 9) (by omega) (by omega) (by omega) (br_f (by decide) ⟨vn, rfl, I4⟩)
  · refine xa_no0 hr (br_t rfl ?_)
    unfold wpY_kind
    exact ya_inR 9 (by omega) hr (br_t rfl ⟨rfl, I4⟩)
theorem i_vc_size {k : Nat} {u : SX} {v : SY} (I : i_Rel k u v) (hk : k + 4 ≤ 2048) (v1 : Int32) : wpX_size (fun r => wpY_size (fun r' => r' = r ∧ i_Rel (k + 4) u v) v v1) u v1 := by
  have I4 := i_up I
  obtain ⟨ex, kd, ns, np, wo, en, st, pp, sp, pc, pg, pn, rg, ds, fi, ow, po, pw, pl, qu, ou, qp, go, m, c, rfl, rfl, hJ⟩ := I
  have hF := hJ.1
  unfold wpX_size
  rcases ux_rg v1 10 (by decide) with ⟨n, hn, rfl⟩ | hr
  · have vn : vp_in (nI n) 10 := vp_in_nI hn (by decide)
    have cn : (nI n).toNatClampNeg = n := ux_c (by omega)
    refine xa_no1 hn (br_f (by decide) ⟨vn, ?_⟩)
    rw [cn]
    rcases hF.1.2 n hn with h | h | h
    · refine br_t h ?_
      unfold wpY_size
      exact ya_inN (b := 0) (e := 9) (by omega) (by omega) (by omega) (br_f (by decide) ⟨vn, br_t (by rw [cn, h]; decide) ⟨rfl, I4⟩⟩)
    · refine br_f (by rw [h]; decide) ⟨vn, ?_⟩
      unfold wpY_size
      refine ya_inN (b := 0) (e := 9) (by omega) (by omega) (by omega) (br_f (by decide) ⟨vn, br_f (by rw [cn, h]; decide) (br_t (nI_pos' (by omega)) ⟨vn, br_t (by rw [cn]; exact h) ⟨vn, ?_, I4⟩⟩)⟩)
      rw [cn]; exact ux_LN_f (by rw [h]; exact ux_n12)
    · refine br_f (by rw [h]; decide) ⟨vn, ?_⟩
      unfold wpY_size
      refine ya_inN (b := 0) (e := 9) (by omega) (by omega) (by omega) (br_f (by decide) ⟨vn, br_f (by rw [cn, h]; decide) (br_t (nI_pos' (by omega)) ⟨vn, br_f (by rw [cn, h]; decide) (ya_eo hF.2.1 hn ⟨?_, I4⟩)⟩)⟩)
      exact ((hF.2.2.2.2 n hn).1 h).1.symm
  · refine xa_no0 hr (br_t rfl ?_)
    unfold wpY_size
    exact ya_inR 9 (by omega) hr (br_t rfl ⟨rfl, I4⟩)
theorem i_vc_word {k : Nat} {u : SX} {v : SY} (I : i_Rel k u v) (hk : k + 4 ≤ 2048) (v1 : Int32) (v2 : Int32) : wpX_word (fun r => wpY_word (fun r' => r' = r ∧ i_Rel (k + 4) u v) v v1 v2) u v1 v2 := by
  have I4 := i_up I
  obtain ⟨ex, kd, ns, np, wo, en, st, pp, sp, pc, pg, pn, rg, ds, fi, ow, po, pw, pl, qu, ou, qp, go, m, c, rfl, rfl, hJ⟩ := I
  have hF := hJ.1
  unfold wpX_word
  rcases ux_rg v1 10 (by decide) with ⟨n, hn, rfl⟩ | hr
  · have vn : vp_in (nI n) 10 := vp_in_nI hn (by decide)
    have cn : (nI n).toNatClampNeg = n := ux_c (by omega)
    refine xa_no1 hn (br_f (by decide) ⟨vn, ?_⟩)
    rw [cn]
    by_cases h : kd n = 1
    · obtain ⟨g, hg, eg⟩ := (hF.2.2.2.2 n hn).2 h
      have eL : ux_LN kd ns n = nI g := by rw [ux_LN_f (by rw [h]; exact ux_n12), eg]
      refine br_t h ?_
      by_cases h0 : v2 < 0
      · refine br_t h0 ?_
        unfold wpY_word
        exact ya_inN (b := 0) (e := 9) (by omega) (by omega) (by omega) (br_f (by decide) ⟨vn, br_t (by rw [cn]; exact h) (br_t h0 ⟨rfl, I4⟩)⟩)
      · refine br_f h0 ⟨vn, ?_⟩
        rw [eg]
        by_cases hlt : v2 < nI g
        · obtain ⟨q, hq, rfl⟩ := nI_of h0
          have hqg : q < g := (nI_ltI hq (by omega)).mp hlt
          have x20 : nI n * 20 + nI q = nI (n * 20 + q) := by rw [ux_mul_l, nI_add]
          have y20 : 20 * nI n + nI q = nI (n * 20 + q) := by rw [ux_l_mul, nI_add, Nat.mul_comm]
          have vq : vp_in (nI (n * 20 + q)) 200 := vp_in_nI (by omega) (by decide)
          rw [x20]
          refine br_t hlt ⟨vq, ?_⟩
          unfold wpY_word
          refine ya_inN (b := 0) (e := 9) (by omega) (by omega) (by omega) (br_f (by decide) ⟨vn, br_t (by rw [cn]; exact h) (br_f h0 ⟨vn, ?_⟩)⟩)
          rw [cn, eL, y20]
          exact br_f (Int32.not_le.mpr hlt) ⟨vq, rfl, I4⟩
        · refine br_f hlt ?_
          unfold wpY_word
          refine ya_inN (b := 0) (e := 9) (by omega) (by omega) (by omega) (br_f (by decide) ⟨vn, br_t (by rw [cn]; exact h) (br_f h0 ⟨vn, ?_⟩)⟩)
          rw [cn, eL]
          exact br_t (Int32.not_lt.mp hlt) ⟨rfl, I4⟩
    · refine br_f h ?_
      unfold wpY_word
      exact ya_inN (b := 0) (e := 9) (by omega) (by omega) (by omega) (br_f (by decide) ⟨vn, br_f (by rw [cn]; exact h) ⟨rfl, I4⟩⟩)
  · refine xa_no0 hr (br_t rfl ?_)
    unfold wpY_word
    exact ya_inR 9 (by omega) hr (br_t rfl ⟨rfl, I4⟩)
theorem i_vc_entry {k : Nat} {u : SX} {v : SY} (I : i_Rel k u v) (hk : k + 4 ≤ 2048) (v1 : Int32) (v2 : Int32) : wpX_entry (fun r => wpY_entry (fun r' => r' = r ∧ i_Rel (k + 4) u v) v v1 v2) u v1 v2 := by
  have I4 := i_up I
  obtain ⟨ex, kd, ns, np, wo, en, st, pp, sp, pc, pg, pn, rg, ds, fi, ow, po, pw, pl, qu, ou, qp, go, m, c, rfl, rfl, hJ⟩ := I
  have hF := hJ.1
  unfold wpX_entry
  rcases ux_rg v1 10 (by decide) with ⟨n, hn, rfl⟩ | hr
  · have vn : vp_in (nI n) 10 := vp_in_nI hn (by decide)
    have cn : (nI n).toNatClampNeg = n := ux_c (by omega)
    refine xa_no1 hn (br_f (by decide) ⟨vn, ?_⟩)
    rw [cn]
    by_cases h : kd n = 2
    · refine br_t h ?_
      rcases ux_rg v2 16 (by decide) with ⟨a, ha, rfl⟩ | hr
      · refine br_f (nI_pos (by omega)) (br_t (nI_le (b := 15) (by omega) (by decide)) ?_)
        by_cases h15 : a = 15
        · subst h15
          refine br_t rfl ⟨vn, ?_⟩
          unfold wpY_entry
          refine ya_inN (b := 0) (e := 9) (by omega) (by omega) (by omega) (br_f (by decide) ⟨vn, br_t (by rw [cn]; exact h) (ya_inN (b := 0) (e := 15) (by omega) (by omega) (by omega) (br_f (by decide) (br_t rfl ⟨vn, ?_, I4⟩)))⟩)
          rw [cn]
        · have hne : ¬ nI a = 15 := ux_ne (b := 15) h15 (by omega) (by omega)
          have y15 : 15 * nI n + nI a = nI (n * 15 + a) := by rw [ux_l_mul, nI_add, Nat.mul_comm]
          have va : vp_in (nI (n * 15 + a)) 150 := vp_in_nI (by omega) (by decide)
          refine br_f hne (xa_nnA hn (by omega) ?_)
          by_cases h0 : en (n * 15 + a) = 0
          · refine br_t h0 ?_
            unfold wpY_entry
            refine ya_inN (b := 0) (e := 9) (by omega) (by omega) (by omega) (br_f (by decide) ⟨vn, br_t (by rw [cn]; exact h) (ya_inN (b := 0) (e := 15) (by omega) (by omega) (by omega) (br_f (by decide) (br_f hne ?_)))⟩)
            rw [y15, ux_c (n := n * 15 + a) (by omega), ux_EN_0 (by omega) h0]
            exact ⟨va, rfl, I4⟩
          · refine br_f h0 ?_
            unfold wpY_entry
            refine ya_inN (b := 0) (e := 9) (by omega) (by omega) (by omega) (br_f (by decide) ⟨vn, br_t (by rw [cn]; exact h) (ya_inN (b := 0) (e := 15) (by omega) (by omega) (by omega) (br_f (by decide) (br_f hne ?_)))⟩)
            rw [y15, ux_c (n := n * 15 + a) (by omega), ux_EN_1 (by omega) h0]
            exact ⟨va, rfl, I4⟩
      · have hY : wpY_entry (fun r' => r' = -1000000 ∧ i_Rel (k + 4) (nI m, nI c, ex, kd, ns, np, wo, en, st, pp, sp, pc, pg, pn, rg, ds, fi, ow, po, pw, pl, qu, ou) ((nI m), ex, (nI c), go, kd, (ux_LN kd ns), wo, (ux_EN en), np, st, qp, sp, pn, pg, rg, (ux_ED ds), pc, fi, ow, po, pl, pw, qu, ou)) ((nI m), ex, (nI c), go, kd, (ux_LN kd ns), wo, (ux_EN en), np, st, qp, sp, pn, pg, rg, (ux_ED ds), pc, fi, ow, po, pl, pw, qu, ou) (nI n) v2 := by
          unfold wpY_entry
          exact ya_inN (b := 0) (e := 9) (by omega) (by omega) (by omega) (br_f (by decide) ⟨vn, br_t (by rw [cn]; exact h) (ya_inR 15 (by omega) hr (br_t rfl ⟨rfl, I4⟩))⟩)
        rcases hr with h1 | ⟨h1, h2⟩
        · exact br_t h1 hY
        · exact br_f h1 (br_f (ux_hi1 (n := 15) (by decide) h2) hY)
    · refine br_f h ?_
      unfold wpY_entry
      exact ya_inN (b := 0) (e := 9) (by omega) (by omega) (by omega) (br_f (by decide) ⟨vn, br_f (by rw [cn]; exact h) ⟨rfl, I4⟩⟩)
  · refine xa_no0 hr (br_t rfl ?_)
    unfold wpY_entry
    exact ya_inR 9 (by omega) hr (br_t rfl ⟨rfl, I4⟩)
theorem i_vc_pipe {k : Nat} {u : SX} {v : SY} (I : i_Rel k u v) (hk : k + 4 ≤ 2048) (v1 : Int32) : wpX_pipe (fun r => wpY_pipe (fun r' => r' = r ∧ i_Rel (k + 4) u v) v v1) u v1 := by
  have I4 := i_up I
  obtain ⟨ex, kd, ns, np, wo, en, st, pp, sp, pc, pg, pn, rg, ds, fi, ow, po, pw, pl, qu, ou, qp, go, m, c, rfl, rfl, hJ⟩ := I
  have hD := hJ.2.1
  unfold wpX_pipe
  dsimp only
  rcases ux_rg v1 2 (by decide) with ⟨q, hq, rfl⟩ | hr
  · have vq : vp_in (nI q) 2 := vp_in_nI hq (by decide)
    have ea : 4096 + nI q = nI (4096 + q) := nI_add 4096 q
    have eb : 8192 + nI q = nI (8192 + q) := nI_add 8192 q
    have ec : 101 + nI q = nI (101 + q) := nI_add 101 q
    have ed : 201 + nI q = nI (201 + q) := nI_add 201 q
    refine br_f (nI_pos (by omega)) (br_t (nI_lt (b := 2) hq (by decide)) ?_)
    rw [ea, eb]
    have hY : ∀ x : Int32, ((ux_hd ds (nI (4096 + q)) ∨ ux_hd ds (nI (8192 + q))) → pl (nI q).toNatClampNeg = x) → (¬ (ux_hd ds (nI (4096 + q)) ∨ ux_hd ds (nI (8192 + q))) → -1 = x) → wpY_pipe (fun r' => r' = x ∧ i_Rel (k + 4) (nI m, nI c, ex, kd, ns, np, wo, en, st, pp, sp, pc, pg, pn, rg, ds, fi, ow, po, pw, pl, qu, ou) ((nI m), ex, (nI c), go, kd, (ux_LN kd ns), wo, (ux_EN en), np, st, qp, sp, pn, pg, rg, (ux_ED ds), pc, fi, ow, po, pl, pw, qu, ou)) ((nI m), ex, (nI c), go, kd, (ux_LN kd ns), wo, (ux_EN en), np, st, qp, sp, pn, pg, rg, (ux_ED ds), pc, fi, ow, po, pl, pw, qu, ou) (nI q) := by
      intro x h1 h2
      unfold wpY_pipe
      refine ya_inN (b := 0) (e := 1) (by omega) (by omega) (by omega) (br_f (by decide) ?_)
      rw [ec, ed]
      by_cases ha : ux_hd ds (nI (4096 + q))
      · exact ya_h1 ((ux_hd_r hD hq).mpr ha) (br_f (by decide) ⟨vq, h1 (Or.inl ha), I4⟩)
      · refine ya_h0 (fun z => ha ((ux_hd_r hD hq).mp z)) (br_t rfl ?_)
        by_cases hb : ux_hd ds (nI (8192 + q))
        · exact ya_h1 ((ux_hd_w hD hq).mpr hb) (br_f (by decide) ⟨vq, h1 (Or.inr hb), I4⟩)
        · exact ya_h0 (fun z => hb ((ux_hd_w hD hq).mp z)) (br_t rfl ⟨h2 (fun z => z.elim ha hb), I4⟩)
    by_cases ha : ux_hd ds (nI (4096 + q))
    · exact xa_ih1 ha (br_f (by decide) ⟨vq, hY _ (fun _ => rfl) (fun z => absurd (Or.inl ha) z)⟩)
    · refine xa_ih0 ha (br_t rfl ?_)
      by_cases hb : ux_hd ds (nI (8192 + q))
      · exact xa_ih1 hb (br_f (by decide) ⟨vq, hY _ (fun _ => rfl) (fun z => absurd (Or.inr hb) z)⟩)
      · exact xa_ih0 hb (br_t rfl (hY _ (fun z => absurd z (fun y => y.elim ha hb)) (fun _ => rfl)))
  · have hY : wpY_pipe (fun r' => r' = -1000000 ∧ i_Rel (k + 4) (nI m, nI c, ex, kd, ns, np, wo, en, st, pp, sp, pc, pg, pn, rg, ds, fi, ow, po, pw, pl, qu, ou) ((nI m), ex, (nI c), go, kd, (ux_LN kd ns), wo, (ux_EN en), np, st, qp, sp, pn, pg, rg, (ux_ED ds), pc, fi, ow, po, pl, pw, qu, ou)) ((nI m), ex, (nI c), go, kd, (ux_LN kd ns), wo, (ux_EN en), np, st, qp, sp, pn, pg, rg, (ux_ED ds), pc, fi, ow, po, pl, pw, qu, ou) v1 := by
      unfold wpY_pipe
      exact ya_inR 1 (by omega) hr (br_t rfl ⟨rfl, I4⟩)
    rcases hr with h1 | ⟨h1, h2⟩
    · exact br_t h1 hY
    · exact br_f h1 (br_f (ux_hi h2) hY)
theorem i_vc_executed {k : Nat} {u : SX} {v : SY} (I : i_Rel k u v) (hk : k + 4 ≤ 2048) : wpX_executed (fun r => wpY_executed (fun r' => r' = r ∧ i_Rel (k + 4) u v) v) u := by
  have I4 := i_up I
  obtain ⟨ex, kd, ns, np, wo, en, st, pp, sp, pc, pg, pn, rg, ds, fi, ow, po, pw, pl, qu, ou, qp, go, m, c, rfl, rfl, hJ⟩ := I
  exact ⟨rfl, I4⟩
theorem i_vc_printed {k : Nat} {u : SX} {v : SY} (I : i_Rel k u v) (hk : k + 4 ≤ 2048) : wpX_printed (fun r => wpY_printed (fun r' => r' = r ∧ i_Rel (k + 4) u v) v) u := by
  have I4 := i_up I
  obtain ⟨ex, kd, ns, np, wo, en, st, pp, sp, pc, pg, pn, rg, ds, fi, ow, po, pw, pl, qu, ou, qp, go, m, c, rfl, rfl, hJ⟩ := I
  exact ⟨rfl, I4⟩
theorem i_vc_output {k : Nat} {u : SX} {v : SY} (I : i_Rel k u v) (hk : k + 4 ≤ 2048) (v1 : Int32) : wpX_output (fun r => wpY_output (fun r' => r' = r ∧ i_Rel (k + 4) u v) v v1) u v1 := by
  have I4 := i_up I
  obtain ⟨ex, kd, ns, np, wo, en, st, pp, sp, pc, pg, pn, rg, ds, fi, ow, po, pw, pl, qu, ou, qp, go, m, c, rfl, rfl, hJ⟩ := I
  rcases ux_rg v1 32 (by decide) with ⟨q, hq, rfl⟩ | hr
  · have vq : vp_in (nI q) 32 := vp_in_nI hq (by decide)
    refine br_f (nI_pos (by omega)) (br_f (nI_ge (b := 32) hq (by decide)) ?_)
    by_cases hc : nI q < nI c
    · refine br_t hc ⟨vq, ?_⟩
      unfold wpY_output
      exact ya_inN (b := 0) (e := 31) (by omega) (by omega) (by omega) (br_f (by decide) (br_f (Int32.not_le.mpr hc) ⟨vq, rfl, I4⟩))
    · refine br_f hc ?_
      unfold wpY_output
      exact ya_inN (b := 0) (e := 31) (by omega) (by omega) (by omega) (br_f (by decide) (br_t (Int32.not_lt.mp hc) ⟨rfl, I4⟩))
  · have hY : wpY_output (fun r' => r' = 0 ∧ i_Rel (k + 4) (nI m, nI c, ex, kd, ns, np, wo, en, st, pp, sp, pc, pg, pn, rg, ds, fi, ow, po, pw, pl, qu, ou) ((nI m), ex, (nI c), go, kd, (ux_LN kd ns), wo, (ux_EN en), np, st, qp, sp, pn, pg, rg, (ux_ED ds), pc, fi, ow, po, pl, pw, qu, ou)) ((nI m), ex, (nI c), go, kd, (ux_LN kd ns), wo, (ux_EN en), np, st, qp, sp, pn, pg, rg, (ux_ED ds), pc, fi, ow, po, pl, pw, qu, ou) v1 := by
      unfold wpY_output
      exact ya_inR 31 (by omega) hr (br_t rfl ⟨rfl, I4⟩)
    rcases hr with h1 | ⟨h1, h2⟩
    · exact br_t h1 hY
    · exact br_f h1 (br_t h2 hY)
theorem i_vc_level {k : Nat} {u : SX} {v : SY} (I : i_Rel k u v) (hk : k + 4 ≤ 2048) (v1 : Int32) : wpX_level (fun r => wpY_level (fun r' => r' = r ∧ i_Rel (k + 4) u v) v v1) u v1 := by
  have I4 := i_up I
  obtain ⟨ex, kd, ns, np, wo, en, st, pp, sp, pc, pg, pn, rg, ds, fi, ow, po, pw, pl, qu, ou, qp, go, m, c, rfl, rfl, hJ⟩ := I
  by_cases h0 : v1 = 0
  · exact br_t h0 (br_t h0 ⟨rfl, I4⟩)
  · by_cases h1 : v1 = 1
    · exact br_f h0 (br_t h1 (br_f h0 (br_t h1 ⟨rfl, I4⟩)))
    · exact br_f h0 (br_f h1 (br_f h0 (br_f h1 ⟨rfl, I4⟩)))
end UX28C
