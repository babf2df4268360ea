section UX12
variable {ql pr : Int32} {ex : Int64} {kd ns np wo en st pp sp pc pg pn rg ds fi ow po pw pl qu ou : Nat → Int32}
variable {qp : Nat → Int32} {go : Int32} {post : Int32 → Prop} {d a n p c k o m e s l b : Nat} {x r w : Int32}
theorem ux_hv_u {y : Int32} (h1 : ux_hv ds p r w) (h2 : ux_hv ds p r y) : w = y := by
  rcases h1 with ⟨a, ha, e1, e2⟩ | ⟨h, e2⟩
  · rcases h2 with ⟨b, hb, e3, e4⟩ | ⟨h, e4⟩
    · rw [e1] at e3
      rw [e2, e4, ux_inj e3 (by omega) (by omega)]
    · exfalso
      rw [e1] at h
      rcases h with h | ⟨_, h⟩
      · exact nI_pos (by omega) h
      · exact nI_ge ha (by omega) h
  · rcases h2 with ⟨b, hb, e3, e4⟩ | ⟨h, e4⟩
    · exfalso
      rw [e3] at h
      rcases h with h | ⟨_, h⟩
      · exact nI_pos (by omega) h
      · exact nI_ge hb (by omega) h
    · rw [e2, e4]
theorem ux_hm1 (h0 : ¬ x < 0) (h : nI l ≤ x) (hl : l ≤ 20) : nI l - 1 < x := by
  by_cases e : l = 0
  · rw [e, show nI 0 - 1 = -1 from by decide]
    exact Int32.lt_of_lt_of_le (by decide) (ux_nl h0)
  · obtain ⟨t, rfl⟩ : ∃ t, l = t + 1 := ⟨l - 1, by omega⟩
    rw [nI_pred]
    exact ux_gt (by omega) h
theorem xa_rw1 (hk : k < 2) (h0 : pl k = 0) (hh : ux_hd ds (nI (8192 + k))) (h : post 1) : wpX_readingWaits post (ql, pr, ex, kd, ns, np, wo, en, st, pp, sp, pc, pg, pn, rg, ds, fi, ow, po, pw, pl, qu, ou) (nI (4096 + k)) := by
  unfold wpX_readingWaits
  refine xa_pY (e := 4096) hk (by omega) (br_f (nI_pos (by omega)) ⟨vp_in_nI hk (by decide), br_t (by rw [ux_c (by omega)]; exact h0) ?_⟩)
  rw [ux_l_add]
  exact xa_ih1 hh (br_f (by decide) h)
theorem xa_rwA (hk : k < 2) (h0 : pl k ≠ 0) (h : post 0) : wpX_readingWaits post (ql, pr, ex, kd, ns, np, wo, en, st, pp, sp, pc, pg, pn, rg, ds, fi, ow, po, pw, pl, qu, ou) (nI (4096 + k)) := by
  unfold wpX_readingWaits
  exact xa_pY (e := 4096) hk (by omega) (br_f (nI_pos (by omega)) ⟨vp_in_nI hk (by decide), br_f (by rw [ux_c (by omega)]; exact h0) h⟩)
theorem xa_rwB (hk : k < 2) (h0 : pl k = 0) (hh : ¬ ux_hd ds (nI (8192 + k))) (h : post 0) : wpX_readingWaits post (ql, pr, ex, kd, ns, np, wo, en, st, pp, sp, pc, pg, pn, rg, ds, fi, ow, po, pw, pl, qu, ou) (nI (4096 + k)) := by
  unfold wpX_readingWaits
  refine xa_pY (e := 4096) hk (by omega) (br_f (nI_pos (by omega)) ⟨vp_in_nI hk (by decide), br_t (by rw [ux_c (by omega)]; exact h0) ?_⟩)
  rw [ux_l_add]
  exact xa_ih0 hh (br_t rfl h)
theorem xa_rwC (ha : a < 4096 ∨ 4096 + 2 ≤ a) (h1 : a < 100000) (h : post 0) : wpX_readingWaits post (ql, pr, ex, kd, ns, np, wo, en, st, pp, sp, pc, pg, pn, rg, ds, fi, ow, po, pw, pl, qu, ou) (nI a) := by
  unfold wpX_readingWaits
  exact xa_pN (e := 4096) ha h1 (by omega) (br_t (by decide) h)
theorem xa_ww1 (hk : k < 2) (h0 : pl k = 4) (hh : ux_hd ds (nI (4096 + k))) (h : post 1) : wpX_writingWaits post (ql, pr, ex, kd, ns, np, wo, en, st, pp, sp, pc, pg, pn, rg, ds, fi, ow, po, pw, pl, qu, ou) (nI (8192 + k)) := by
  unfold wpX_writingWaits
  refine xa_pY (e := 8192) hk (by omega) (br_f (nI_pos (by omega)) ⟨vp_in_nI hk (by decide), br_t (by rw [ux_c (by omega)]; exact h0) ?_⟩)
  rw [ux_l_add]
  exact xa_ih1 hh (br_f (by decide) h)
theorem xa_wwA (hk : k < 2) (h0 : pl k ≠ 4) (h : post 0) : wpX_writingWaits post (ql, pr, ex, kd, ns, np, wo, en, st, pp, sp, pc, pg, pn, rg, ds, fi, ow, po, pw, pl, qu, ou) (nI (8192 + k)) := by
  unfold wpX_writingWaits
  exact xa_pY (e := 8192) hk (by omega) (br_f (nI_pos (by omega)) ⟨vp_in_nI hk (by decide), br_f (by rw [ux_c (by omega)]; exact h0) h⟩)
theorem xa_wwB (hk : k < 2) (h0 : pl k = 4) (hh : ¬ ux_hd ds (nI (4096 + k))) (h : post 0) : wpX_writingWaits post (ql, pr, ex, kd, ns, np, wo, en, st, pp, sp, pc, pg, pn, rg, ds, fi, ow, po, pw, pl, qu, ou) (nI (8192 + k)) := by
  unfold wpX_writingWaits
  refine xa_pY (e := 8192) hk (by omega) (br_f (nI_pos (by omega)) ⟨vp_in_nI hk (by decide), br_t (by rw [ux_c (by omega)]; exact h0) ?_⟩)
  rw [ux_l_add]
  exact xa_ih0 hh (br_t rfl h)
theorem xa_wwC (ha : a < 8192 ∨ 8192 + 2 ≤ a) (h1 : a < 100000) (h : post 0) : wpX_writingWaits post (ql, pr, ex, kd, ns, np, wo, en, st, pp, sp, pc, pg, pn, rg, ds, fi, ow, po, pw, pl, qu, ou) (nI a) := by
  unfold wpX_writingWaits
  exact xa_pN (e := 8192) ha h1 (by omega) (br_t (by decide) h)
/-! the reference's descriptor -/
theorem ya_eO (hp : p < 5) (hb : b < 4) (hv : ux_hv ds p (rg (p * 4 + b)) w) (h : post (ux_cv w)) : wpY_endOf post (ql, ex, pr, go, kd, (ux_LN kd ns), wo, (ux_EN en), np, st, qp, sp, pn, pg, rg, (ux_ED ds), pc, fi, ow, po, pl, pw, qu, ou) (nI p) (nI b) := by
  have e : 4 * nI p + nI b = nI (p * 4 + b) := by rw [ux_l_mul, nI_add, Nat.mul_comm]
  unfold wpY_endOf
  dsimp only
  rw [e, ux_c (by omega)]
  refine ⟨vp_in_nI (by omega) (by decide), nm_e ?_⟩
  rcases hv with ⟨a, ha, e1, e2⟩ | ⟨hr, e2⟩
  · have e3 : 4 * nI p + nI a = nI (p * 4 + a) := by rw [ux_l_mul, nI_add, Nat.mul_comm]
    rw [e1]
    refine ya_inN (b := 0) (e := 3) (by omega) (by omega) (by omega) (br_f (by decide) ?_)
    rw [e3, ux_c (by omega)]
    rw [e2] at h
    exact ⟨vp_in_nI (by omega) (by decide), h⟩
  · rw [e2, ux_cv0] at h
    exact ya_inR 3 (by omega) hr (br_t rfl h)
theorem ux_k1 : ∀ k, k < 2 → nI k &&& 1 = nI k := by decide +kernel
theorem ux_bz0 : narrow .boolean (.int 0) = .int 0 := rfl
theorem ux_bz1 : narrow .boolean (.int 1) = .int 1 := rfl
end UX12
