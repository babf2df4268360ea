section UX13
variable {ql pr : Int32} {ex : Int64} {kd ns np wo en st pp sp pc pg pn rg ds fi ow po pw pl qu ou : Nat → Int32}
variable {qp : Nat → Int32} {go : Int32} {d a n p c k o m e s l b : Nat} {x r w y : Int32}
theorem xa_wwI {post : Int32 → Prop} (hp : p < 5) (hi : ux_ip sp pn p s l) (hw : pg (p * 20 + s) = w) (ho : w &&& 31 = x)
    (h : (x = 11 → wpX_hasChild (fun r => (r = 0 → post 0) ∧ (¬ r = 0 → wpX_endedChild (fun r => (0 ≤ r → post 0) ∧ (¬ 0 ≤ r → post 1)) (ql, pr, ex, kd, ns, np, wo, en, st, pp, sp, pc, pg, pn, rg, ds, fi, ow, po, pw, pl, qu, ou) (nI p))) (ql, pr, ex, kd, ns, np, wo, en, st, pp, sp, pc, pg, pn, rg, ds, fi, ow, po, pw, pl, qu, ou) (nI p)) ∧ (¬ x = 11 → (x = 15 → wX_wouldWait_74 post (nI p) w x ql pr ex kd ns np wo en st pp sp pc pg pn rg ds fi ow po pw pl qu ou) ∧ (¬ x = 15 → (x = 16 → wX_wouldWait_74 post (nI p) w x ql pr ex kd ns np wo en st pp sp pc pg pn rg ds fi ow po pw pl qu ou) ∧ (¬ x = 16 → post 0)))) :
    wpX_wouldWait post (ql, pr, ex, kd, ns, np, wo, en, st, pp, sp, pc, pg, pn, rg, ds, fi, ow, po, pw, pl, qu, ou) (nI p) := by
  have h4 := hi
  obtain ⟨h1, h2, h3, _⟩ := h4
  have cl : (nI p).toNatClampNeg = p := ux_c (by omega)
  have iv : vp_in (nI p) 5 := vp_in_nI hp (by decide)
  have e : nI p * 20 + nI s = nI (p * 20 + s) := by rw [ux_mul_l, nI_add]
  unfold wpX_wouldWait
  refine xa_ip1 hp hi (br_f (by decide) ⟨iv, ?_⟩)
  rw [cl, h3, e, ux_c (by omega)]
  exact ⟨vp_in_nI (by omega) (by decide), nm_r hw (nm_r ho h)⟩
theorem ya_wwI {post : Int32 → Prop} (hp : p < 5) (hi : ux_ip sp pn p s l) (hw : pg (p * 20 + s) = w) (ho : w &&& 31 = x) (hb : b < 4) (eb : (w >>> ((7 : Int32) &&& 31)) &&& 3 = nI b) (hv : ux_hv ds p (rg (p * 4 + b)) y) (hy : ux_cv y = r)
    (h : (x = 11 → wpY_endedChild (fun r => (r = (-1) → post 1) ∧ (¬ r = (-1) → post 0)) (ql, ex, pr, go, kd, (ux_LN kd ns), wo, (ux_EN en), np, st, qp, sp, pn, pg, rg, (ux_ED ds), pc, fi, ow, po, pl, pw, qu, ou) (nI p)) ∧ (¬ x = 11 → (x = 15 → wpY_in (fun r2 => (r2 = 0 → post 0) ∧ (¬ r2 = 0 → (vp_in ((r - 101) &&& 1) 2 ∧ ((pl ((r - 101) &&& 1).toNatClampNeg = 0 → wpY_has (fun r => (r = 0 → post 0) ∧ (¬ r = 0 → post 1)) (ql, ex, pr, go, kd, (ux_LN kd ns), wo, (ux_EN en), np, st, qp, sp, pn, pg, rg, (ux_ED ds), pc, fi, ow, po, pl, pw, qu, ou) (r + 100)) ∧ (¬ pl ((r - 101) &&& 1).toNatClampNeg = 0 → post 0))))) (ql, ex, pr, go, kd, (ux_LN kd ns), wo, (ux_EN en), np, st, qp, sp, pn, pg, rg, (ux_ED ds), pc, fi, ow, po, pl, pw, qu, ou) r 101 102) ∧ (¬ x = 15 → (x = 16 → wpY_in (fun r2 => (r2 = 0 → post 0) ∧ (¬ r2 = 0 → (vp_in ((r - 201) &&& 1) 2 ∧ ((pl ((r - 201) &&& 1).toNatClampNeg = 4 → wpY_has (fun r => (r = 0 → post 0) ∧ (¬ r = 0 → post 1)) (ql, ex, pr, go, kd, (ux_LN kd ns), wo, (ux_EN en), np, st, qp, sp, pn, pg, rg, (ux_ED ds), pc, fi, ow, po, pl, pw, qu, ou) (r - 100)) ∧ (¬ pl ((r - 201) &&& 1).toNatClampNeg = 4 → post 0))))) (ql, ex, pr, go, kd, (ux_LN kd ns), wo, (ux_EN en), np, st, qp, sp, pn, pg, rg, (ux_ED ds), pc, fi, ow, po, pl, pw, qu, ou) r 201 202) ∧ (¬ x = 16 → post 0)))) :
    wpY_waits post (ql, ex, pr, go, kd, (ux_LN kd ns), wo, (ux_EN en), np, st, qp, sp, pn, pg, rg, (ux_ED ds), pc, fi, ow, po, pl, pw, qu, ou) (nI p) := by
  obtain ⟨h1, h2, h3, h4⟩ := hi
  have cl : (nI p).toNatClampNeg = p := ux_c (by omega)
  have iv : vp_in (nI p) 5 := vp_in_nI hp (by decide)
  have e : 20 * nI p + nI s = nI (p * 20 + s) := by rw [ux_l_mul, nI_add, Nat.mul_comm]
  obtain ⟨t, rfl⟩ : ∃ t, l = t + 1 := ⟨l - 1, by omega⟩
  unfold wpY_waits
  dsimp only
  rw [cl, h3, h4, nI_pred, e, ux_c (by omega)]
  refine ⟨iv, iv, ya_inT (nI_pos (by omega)) (nI_nlt (by omega) (by omega)) (br_f (by decide) ⟨iv, vp_in_nI (by omega) (by decide), nm_r hw (nm_r ho ?_)⟩)⟩
  rw [eb]
  refine ya_eO hp hb hv ?_
  rw [hy]
  exact h
theorem ya_wwO {post : Int32 → Prop} (hp : p < 5) (hi : ux_up sp pn p l) (h : post 0) : wpY_waits post (ql, ex, pr, go, kd, (ux_LN kd ns), wo, (ux_EN en), np, st, qp, sp, pn, pg, rg, (ux_ED ds), pc, fi, ow, po, pl, pw, qu, ou) (nI p) := by
  obtain ⟨h1, h2, h3⟩ := hi
  have cl : (nI p).toNatClampNeg = p := ux_c (by omega)
  have iv : vp_in (nI p) 5 := vp_in_nI hp (by decide)
  unfold wpY_waits
  dsimp only
  rw [cl, h2]
  refine ⟨iv, iv, ya_inF ?_ (br_t rfl h)⟩
  rcases h3 with h3 | ⟨h3, h4⟩
  · exact Or.inl h3
  · exact Or.inr (ux_hm1 h3 h4 h1)
theorem xa_wwO {post : Int32 → Prop} (hp : p < 5) (hi : ux_up sp pn p l) (h : post 0) : wpX_wouldWait post (ql, pr, ex, kd, ns, np, wo, en, st, pp, sp, pc, pg, pn, rg, ds, fi, ow, po, pw, pl, qu, ou) (nI p) := by
  unfold wpX_wouldWait
  exact xa_ip0 hp hi (br_t rfl h)
theorem xa_w74 {post : Int32 → Prop} (hp : p < 5) (hb : b < 4) (eb : (w >>> ((7 : Int32) &&& 31)) &&& 3 = nI b) (hv : ux_hv ds p (rg (p * 4 + b)) y)
    (h : (x = 15 → wpX_readingWaits (fun r => (narrow .boolean (.int r) = .int r ∧ post r)) (ql, pr, ex, kd, ns, np, wo, en, st, pp, sp, pc, pg, pn, rg, ds, fi, ow, po, pw, pl, qu, ou) y) ∧ (¬ x = 15 → wpX_writingWaits (fun r => (narrow .boolean (.int r) = .int r ∧ post r)) (ql, pr, ex, kd, ns, np, wo, en, st, pp, sp, pc, pg, pn, rg, ds, fi, ow, po, pw, pl, qu, ou) y)) : wX_wouldWait_74 post (nI p) w x ql pr ex kd ns np wo en st pp sp pc pg pn rg ds fi ow po pw pl qu ou := by
  have e : nI p * 4 + nI b = nI (p * 4 + b) := by rw [ux_mul_l, nI_add]
  unfold wX_wouldWait_74
  rw [eb, e, ux_c (by omega)]
  exact ⟨vp_in_nI (by omega) (by decide), xa_ha hp hv h⟩
/-- what not to wait says of a write -/
def ux_NW (pg rg ds pl : Nat → Int32) (p s : Nat) : Prop := ∀ b k, b < 4 → k < 2 → pg (p * 20 + s) &&& 31 = 16 → (pg (p * 20 + s) >>> ((7 : Int32) &&& 31)) &&& 3 = nI b → ux_hv ds p (rg (p * 4 + b)) (nI (8192 + k)) → ux_hd ds (nI (4096 + k)) → pl k ≠ 4
theorem ux_nwN {pg rg ds pl : Nat → Int32} (h : pg (p * 20 + s) &&& 31 ≠ 16) : ux_NW pg rg ds pl p s := fun _ _ _ _ z => absurd z h
theorem ux_ww (hD : ux_D ds) (hR : ux_R kd st pp qp pc pn) (hp : p < 5) (hs : st p = 1 ∨ st p = 2) :
    ∃ r : Int32, (r = 0 ∨ r = 1) ∧ (r = 0 → ∀ s l, ux_ip sp pn p s l → ux_NW pg rg ds pl p s) ∧ (∀ post : Int32 → Prop, post r → wpX_wouldWait post (ql, pr, ex, kd, ns, np, wo, en, st, pp, sp, pc, pg, pn, rg, ds, fi, ow, po, pw, pl, qu, ou) (nI p)) ∧ (∀ post : Int32 → Prop, post r → wpY_waits post (ql, ex, pr, go, kd, (ux_LN kd ns), wo, (ux_EN en), np, st, qp, sp, pn, pg, rg, (ux_ED ds), pc, fi, ow, po, pl, pw, qu, ou) (nI p)) := by
  obtain ⟨_, l, hl, el⟩ := (hR p hp).2.2 hs
  rcases ux_ipup (sp := sp) hl el with ⟨s, hi⟩ | hu
  · have hsu : ∀ s2 l2, ux_ip sp pn p s2 l2 → s2 = s := by
      intro s2 l2 h2
      have e1 := h2.2.2.1
      rw [hi.2.2.1] at e1
      have := hi.1
      have := hi.2.1
      have := h2.1
      have := h2.2.1
      exact (ux_inj e1 (by omega) (by omega)).symm
    obtain ⟨b, hb, eb⟩ := ux_b2 (pg (p * 20 + s) >>> ((7 : Int32) &&& 31))
    obtain ⟨y, hv, hV⟩ := ux_hvE hD hp (rg (p * 4 + b))
    by_cases h11 : pg (p * 20 + s) &&& 31 = 11
    · have hN : ∀ s2 l2, ux_ip sp pn p s2 l2 → ux_NW pg rg ds pl p s2 := fun s2 l2 h2 => by
        rw [hsu s2 l2 h2]; exact ux_nwN (by rw [h11]; decide)
      rcases ux_ls (fun c => st c = 3 ∧ pp c = nI p) 5 with ⟨c, hc, ⟨c3, cp⟩, hj⟩ | hno
      · refine ⟨0, Or.inl rfl, fun _ => hN, fun post h => ?_, fun post h => ?_⟩
        · exact xa_wwI hp hi rfl h11 (br_t rfl (xa_hc1 hc (by rw [c3]; decide) cp (br_f (by decide) (xa_ec1 hc c3 cp hj (br_t (nI_pos' (by omega)) h)))))
        · refine ya_wwI hp hi rfl h11 hb eb hv rfl (br_t rfl (ya_ec hp ?_))
          have hq : ∀ j, j < 5 → st j ≠ 0 → pp j = qp j := fun j h1 h2 => ((hR j h1).2.1 h2).1
          rw [ux_ec_e 5 (by omega) c (by omega) hc c3 (by rw [← hq c hc (by rw [c3]; decide)]; exact cp) (fun j _ h2 h3 => hj j h2 ⟨h3.1, by rw [hq j (by omega) (by rw [h3.1]; decide)]; exact h3.2⟩)]
          exact br_f (ux_neg1 (by omega)) h
      · rcases ux_ls (fun c => st c ≠ 0 ∧ pp c = nI p) 5 with ⟨c, hc, ⟨c3, cp⟩, hj⟩ | hnc
        · refine ⟨1, Or.inr rfl, fun z => absurd z (by decide), fun post h => ?_, fun post h => ?_⟩
          · exact xa_wwI hp hi rfl h11 (br_t rfl (xa_hc1 hc c3 cp (br_f (by decide) (xa_ec0 hno (br_f (by decide) h)))))
          · refine ya_wwI hp hi rfl h11 hb eb hv rfl (br_t rfl (ya_ec hp ?_))
            have hq : ∀ j, j < 5 → st j ≠ 0 → pp j = qp j := fun j h1 h2 => ((hR j h1).2.1 h2).1
            rw [ux_ec_l 5 (by omega) (fun j _ h2 h3 h4 h5 => hno j h2 ⟨h5, by rw [hq j h2 h3]; exact h4⟩) ⟨c, by omega, hc, c3, by rw [← hq c hc c3]; exact cp⟩]
            exact br_t rfl h
        · refine ⟨0, Or.inl rfl, fun _ => hN, fun post h => ?_, fun post h => ?_⟩
          · exact xa_wwI hp hi rfl h11 (br_t rfl (xa_hc0 hnc (br_t rfl h)))
          · refine ya_wwI hp hi rfl h11 hb eb hv rfl (br_t rfl (ya_ec hp ?_))
            have hq : ∀ j, j < 5 → st j ≠ 0 → pp j = qp j := fun j h1 h2 => ((hR j h1).2.1 h2).1
            rw [ux_ec_n 5 (by omega) (fun j _ h2 h3 => hnc j h2 ⟨h3.1, by rw [hq j h2 h3.1]; exact h3.2⟩)]
            exact br_f (by decide) h
    · by_cases h15 : pg (p * 20 + s) &&& 31 = 15
      · have hN : ∀ s2 l2, ux_ip sp pn p s2 l2 → ux_NW pg rg ds pl p s2 := fun s2 l2 h2 => by
          rw [hsu s2 l2 h2]; exact ux_nwN (by rw [h15]; decide)
        have hr0 : (∃ a, y = nI a ∧ (a < 4096 ∨ 4096 + 2 ≤ a) ∧ a < 100000 ∧ ∃ a2, ux_cv y = nI a2 ∧ (a2 < 101 ∨ 102 < a2) ∧ a2 < 100000) ∨ ∃ k, k < 2 ∧ y = nI (4096 + k) := by
          rcases hV with h | ⟨o, ho, h⟩ | h | ⟨k, hk, h⟩
          · exact Or.inl ⟨0, h, by omega, by omega, 0, by rw [h, ux_cv0]; rfl, by omega, by omega⟩
          · exact Or.inl ⟨1 + o, h, by omega, by omega, 1 + o, by rw [h, ux_cvo o ho], by omega, by omega⟩
          · exact Or.inr h
          · exact Or.inl ⟨8192 + k, h, by omega, by omega, 201 + k, by rw [h, ux_cvw k hk], by omega, by omega⟩
        rcases hr0 with ⟨a, ea, ha, ha2, a2, ea2, hb2, hb3⟩ | ⟨k, hk, ey⟩
        · refine ⟨0, Or.inl rfl, fun _ => hN, fun post h => ?_, fun post h => ?_⟩
          · refine xa_wwI hp hi rfl h15 (br_f (by decide) (br_t rfl (xa_w74 hp hb eb hv (br_t rfl ?_))))
            rw [ea]
            exact xa_rwC ha ha2 ⟨ux_bz0, h⟩
          · exact ya_wwI hp hi rfl h15 hb eb hv ea2 (br_f (by decide) (br_t rfl (ya_inO (b := 101) (e := 102) hb2 hb3 (by omega) (br_t rfl h))))
        · have ecv : ux_cv y = nI (101 + k) := by rw [ey]; exact ux_cvr k hk
          have es : nI (101 + k) - 101 = nI k := ux_s101 k
          have ea : nI (101 + k) + 100 = nI (201 + k) := ux_a100 k
          have hY : ∀ post : Int32 → Prop, ((pl k = 0 → wpY_has (fun r => (r = 0 → post 0) ∧ (¬ r = 0 → post 1)) (ql, ex, pr, go, kd, (ux_LN kd ns), wo, (ux_EN en), np, st, qp, sp, pn, pg, rg, (ux_ED ds), pc, fi, ow, po, pl, pw, qu, ou) (nI (201 + k))) ∧ (¬ pl k = 0 → post 0)) → wpY_waits post (ql, ex, pr, go, kd, (ux_LN kd ns), wo, (ux_EN en), np, st, qp, sp, pn, pg, rg, (ux_ED ds), pc, fi, ow, po, pl, pw, qu, ou) (nI p) := by
            intro post h
            refine ya_wwI hp hi rfl h15 hb eb hv ecv (br_f (by decide) (br_t rfl (ya_inN (b := 101) (e := 102) (by omega) (by omega) (by omega) (br_f (by decide) ?_))))
            rw [es, ux_k1 k hk, ux_c (by omega), ea]
            exact ⟨vp_in_nI hk (by decide), h⟩
          by_cases h0 : pl k = 0
          · by_cases hh : ux_hd ds (nI (8192 + k))
            · refine ⟨1, Or.inr rfl, fun z => absurd z (by decide), fun post h => ?_, fun post h => ?_⟩
              · refine xa_wwI hp hi rfl h15 (br_f (by decide) (br_t rfl (xa_w74 hp hb eb hv (br_t rfl ?_))))
                rw [ey]
                exact xa_rw1 hk h0 hh ⟨ux_bz1, h⟩
              · exact hY post (br_t h0 (ya_h1 ((ux_hd_w hD hk).mpr hh) (br_f (by decide) h)))
            · refine ⟨0, Or.inl rfl, fun _ => hN, fun post h => ?_, fun post h => ?_⟩
              · refine xa_wwI hp hi rfl h15 (br_f (by decide) (br_t rfl (xa_w74 hp hb eb hv (br_t rfl ?_))))
                rw [ey]
                exact xa_rwB hk h0 hh ⟨ux_bz0, h⟩
              · exact hY post (br_t h0 (ya_h0 (fun z => hh ((ux_hd_w hD hk).mp z)) (br_t rfl h)))
          · refine ⟨0, Or.inl rfl, fun _ => hN, fun post h => ?_, fun post h => ?_⟩
            · refine xa_wwI hp hi rfl h15 (br_f (by decide) (br_t rfl (xa_w74 hp hb eb hv (br_t rfl ?_))))
              rw [ey]
              exact xa_rwA hk h0 ⟨ux_bz0, h⟩
            · exact hY post (br_f h0 h)
      · by_cases h16 : pg (p * 20 + s) &&& 31 = 16
        · have hr0 : (∃ a, y = nI a ∧ (a < 8192 ∨ 8192 + 2 ≤ a) ∧ a < 100000 ∧ ∃ a2, ux_cv y = nI a2 ∧ (a2 < 201 ∨ 202 < a2) ∧ a2 < 100000) ∨ ∃ k, k < 2 ∧ y = nI (8192 + k) := by
            rcases hV with h | ⟨o, ho, h⟩ | ⟨k, hk, h⟩ | h
            · exact Or.inl ⟨0, h, by omega, by omega, 0, by rw [h, ux_cv0]; rfl, by omega, by omega⟩
            · exact Or.inl ⟨1 + o, h, by omega, by omega, 1 + o, by rw [h, ux_cvo o ho], by omega, by omega⟩
            · exact Or.inl ⟨4096 + k, h, by omega, by omega, 101 + k, by rw [h, ux_cvr k hk], by omega, by omega⟩
            · exact Or.inr h
          have hbu : ∀ b2, b2 < 4 → (pg (p * 20 + s) >>> ((7 : Int32) &&& 31)) &&& 3 = nI b2 → b2 = b := fun b2 h1 h2 => by
            rw [eb] at h2; exact (ux_inj h2 (by omega) (by omega)).symm
          rcases hr0 with ⟨a, ea, ha, ha2, a2, ea2, hb2, hb3⟩ | ⟨k, hk, ey⟩
          · refine ⟨0, Or.inl rfl, fun _ s2 l2 h2 => ?_, fun post h => ?_, fun post h => ?_⟩
            · rw [hsu s2 l2 h2]
              intro b2 k2 g1 g2 _ g4 g5
              rw [hbu b2 g1 g4] at g5
              have := ux_hv_u hv g5
              rw [ea] at this
              have := ux_inj this (by omega) (by omega)
              omega
            · refine xa_wwI hp hi rfl h16 (br_f (by decide) (br_f (by decide) (br_t rfl (xa_w74 hp hb eb hv (br_f (by decide) ?_)))))
              rw [ea]
              exact xa_wwC ha ha2 ⟨ux_bz0, h⟩
            · exact ya_wwI hp hi rfl h16 hb eb hv ea2 (br_f (by decide) (br_f (by decide) (br_t rfl (ya_inO (b := 201) (e := 202) hb2 hb3 (by omega) (br_t rfl h)))))
          · have ecv : ux_cv y = nI (201 + k) := by rw [ey]; exact ux_cvw k hk
            have es : nI (201 + k) - 201 = nI k := ux_s201 k
            have ea : nI (201 + k) - 100 = nI (101 + k) := ux_s100 k
            have hY : ∀ post : Int32 → Prop, ((pl k = 4 → wpY_has (fun r => (r = 0 → post 0) ∧ (¬ r = 0 → post 1)) (ql, ex, pr, go, kd, (ux_LN kd ns), wo, (ux_EN en), np, st, qp, sp, pn, pg, rg, (ux_ED ds), pc, fi, ow, po, pl, pw, qu, ou) (nI (101 + k))) ∧ (¬ pl k = 4 → post 0)) → wpY_waits post (ql, ex, pr, go, kd, (ux_LN kd ns), wo, (ux_EN en), np, st, qp, sp, pn, pg, rg, (ux_ED ds), pc, fi, ow, po, pl, pw, qu, ou) (nI p) := by
              intro post h
              refine ya_wwI hp hi rfl h16 hb eb hv ecv (br_f (by decide) (br_f (by decide) (br_t rfl (ya_inN (b := 201) (e := 202) (by omega) (by omega) (by omega) (br_f (by decide) ?_)))))
              rw [es, ux_k1 k hk, ux_c (by omega), ea]
              exact ⟨vp_in_nI hk (by decide), h⟩
            have hku : ∀ b2 k2, b2 < 4 → k2 < 2 → (pg (p * 20 + s) >>> ((7 : Int32) &&& 31)) &&& 3 = nI b2 → ux_hv ds p (rg (p * 4 + b2)) (nI (8192 + k2)) → k2 = k := by
              intro b2 k2 g1 g2 g4 g5
              rw [hbu b2 g1 g4] at g5
              have := ux_hv_u hv g5
              rw [ey] at this
              have := ux_inj this (by omega) (by omega)
              omega
            by_cases h0 : pl k = 4
            · by_cases hh : ux_hd ds (nI (4096 + k))
              · refine ⟨1, Or.inr rfl, fun z => absurd z (by decide), fun post h => ?_, fun post h => ?_⟩
                · refine xa_wwI hp hi rfl h16 (br_f (by decide) (br_f (by decide) (br_t rfl (xa_w74 hp hb eb hv (br_f (by decide) ?_)))))
                  rw [ey]
                  exact xa_ww1 hk h0 hh ⟨ux_bz1, h⟩
                · exact hY post (br_t h0 (ya_h1 ((ux_hd_r hD hk).mpr hh) (br_f (by decide) h)))
              · refine ⟨0, Or.inl rfl, fun _ s2 l2 h2 => ?_, fun post h => ?_, fun post h => ?_⟩
                · rw [hsu s2 l2 h2]
                  intro b2 k2 g1 g2 _ g4 g5 g6
                  rw [hku b2 k2 g1 g2 g4 g5] at g6
                  exact absurd g6 hh
                · refine xa_wwI hp hi rfl h16 (br_f (by decide) (br_f (by decide) (br_t rfl (xa_w74 hp hb eb hv (br_f (by decide) ?_)))))
                  rw [ey]
                  exact xa_wwB hk h0 hh ⟨ux_bz0, h⟩
                · exact hY post (br_t h0 (ya_h0 (fun z => hh ((ux_hd_r hD hk).mp z)) (br_t rfl h)))
            · refine ⟨0, Or.inl rfl, fun _ s2 l2 h2 => ?_, fun post h => ?_, fun post h => ?_⟩
              · rw [hsu s2 l2 h2]
                intro b2 k2 g1 g2 _ g4 g5 _
                rw [hku b2 k2 g1 g2 g4 g5]
                exact h0
              · refine xa_wwI hp hi rfl h16 (br_f (by decide) (br_f (by decide) (br_t rfl (xa_w74 hp hb eb hv (br_f (by decide) ?_)))))
                rw [ey]
                exact xa_wwA hk h0 ⟨ux_bz0, h⟩
              · exact hY post (br_f h0 h)
        · refine ⟨0, Or.inl rfl, fun _ s2 l2 h2 => ?_, fun post h => ?_, fun post h => ?_⟩
          · rw [hsu s2 l2 h2]; exact ux_nwN h16
          · exact xa_wwI hp hi rfl rfl (br_f h11 (br_f h15 (br_f h16 h)))
          · exact ya_wwI hp hi rfl rfl hb eb hv rfl (br_f h11 (br_f h15 (br_f h16 h)))
  · refine ⟨0, Or.inl rfl, fun _ s2 l2 h2 => ?_, fun post h => xa_wwO hp hu h, fun post h => ya_wwO hp hu h⟩
    obtain ⟨g1, g2, g3, g4⟩ := h2
    obtain ⟨u1, u2, u3⟩ := hu
    rw [u2] at g4
    have := ux_inj g4 (by omega) (by omega)
    rw [g3] at u3
    rcases u3 with z | ⟨_, z⟩
    · exact absurd z (nI_pos (by omega))
    · exact absurd z (nI_ge (by omega) (by omega))
end UX13
