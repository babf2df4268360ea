section UX14
variable {st pp qp ds : Nat → Int32} {p i : Nat}
def ux_zi (ds : Nat → Int32) (p : Nat) : Nat → (Nat → Int32)
  | 0 => ds
  | i + 1 => upd (ux_zi ds p i) (p * 4 + i) 0
theorem ux_zi_s : ux_zi ds p (i + 1) = upd (ux_zi ds p i) (p * 4 + i) 0 := rfl
theorem ux_zi_4 : ux_zi ds p 4 = ux_zp ds p := rfl
theorem ux_p1_at : ux_p1 pp p i i = pp i := if_neg (fun z => Nat.lt_irrefl i z.1)
theorem ux_s1_at : ux_s1 st pp p i i = st i := if_neg (fun z => Nat.lt_irrefl i z.1)
theorem ux_p2_at : ux_p2 st qp p i i = qp i := if_neg (fun z => Nat.lt_irrefl i z.1)
theorem ux_s2_at : ux_s2 st qp p i i = st i := if_neg (fun z => Nat.lt_irrefl i z.1)
theorem ux_p1_0 : ux_p1 pp p 0 = pp := by funext c; exact if_neg (fun z => Nat.not_lt_zero c z.1)
theorem ux_s1_0 : ux_s1 st pp p 0 = st := by funext c; exact if_neg (fun z => Nat.not_lt_zero c z.1)
theorem ux_p2_0 : ux_p2 st qp p 0 = qp := by funext c; exact if_neg (fun z => Nat.not_lt_zero c z.1)
theorem ux_s2_0 : ux_s2 st qp p 0 = st := by funext c; exact if_neg (fun z => Nat.not_lt_zero c z.1)
theorem ux_ltp {c : Nat} (e : c ≠ i) : c < i + 1 ↔ c < i := by omega
theorem ux_p1_t (h : pp i = nI p) : ux_p1 pp p (i + 1) = upd (ux_p1 pp p i) i (-1) := by
  funext c
  by_cases e : c = i
  · rw [e, ux_us]; exact if_pos ⟨by omega, h⟩
  · rw [ux_un e]; unfold ux_p1; simp only [ux_ltp e]
theorem ux_p1_f (h : pp i ≠ nI p) : ux_p1 pp p (i + 1) = ux_p1 pp p i := by
  funext c
  by_cases e : c = i
  · rw [e, ux_p1_at]; exact if_neg (fun z => h z.2)
  · unfold ux_p1; simp only [ux_ltp e]
theorem ux_s1_t (h : pp i = nI p) (h3 : st i = 3) : ux_s1 st pp p (i + 1) = upd (ux_s1 st pp p i) i 0 := by
  funext c
  by_cases e : c = i
  · rw [e, ux_us]; exact if_pos ⟨by omega, h, h3⟩
  · rw [ux_un e]; unfold ux_s1; simp only [ux_ltp e]
theorem ux_s1_f (h : ¬ (pp i = nI p ∧ st i = 3)) : ux_s1 st pp p (i + 1) = ux_s1 st pp p i := by
  funext c
  by_cases e : c = i
  · rw [e, ux_s1_at]; exact if_neg (fun z => h z.2)
  · unfold ux_s1; simp only [ux_ltp e]
theorem ux_p2_t (h1 : i ≠ p) (h2 : st i ≠ 0) (h : qp i = nI p) : ux_p2 st qp p (i + 1) = upd (ux_p2 st qp p i) i (-1) := by
  funext c
  by_cases e : c = i
  · rw [e, ux_us]; exact if_pos ⟨by omega, h1, h2, h⟩
  · rw [ux_un e]; unfold ux_p2; simp only [ux_ltp e]
theorem ux_p2_f (h : ¬ (i ≠ p ∧ st i ≠ 0 ∧ qp i = nI p)) : ux_p2 st qp p (i + 1) = ux_p2 st qp p i := by
  funext c
  by_cases e : c = i
  · rw [e, ux_p2_at]; exact if_neg (fun z => h z.2)
  · unfold ux_p2; simp only [ux_ltp e]
theorem ux_s2_t (h1 : i ≠ p) (h2 : st i ≠ 0) (h : qp i = nI p) (h3 : st i = 3) : ux_s2 st qp p (i + 1) = upd (ux_s2 st qp p i) i 0 := by
  funext c
  by_cases e : c = i
  · rw [e, ux_us]; exact if_pos ⟨by omega, h1, h2, h, h3⟩
  · rw [ux_un e]; unfold ux_s2; simp only [ux_ltp e]
theorem ux_s2_f (h : ¬ (i ≠ p ∧ st i ≠ 0 ∧ qp i = nI p ∧ st i = 3)) : ux_s2 st qp p (i + 1) = ux_s2 st qp p i := by
  funext c
  by_cases e : c = i
  · rw [e, ux_s2_at]; exact if_neg (fun z => h z.2)
  · unfold ux_s2; simp only [ux_ltp e]
end UX14
section UX14X
variable {ql pr : Int32} {ex : Int64} {kd ns np wo en st pp sp pc pg pn rg ds fi ow po pw pl qu ou : Nat → Int32}
variable {post : SX → Prop} {p n m i r : Nat} {x y : Int32}
theorem xa_jq (hp : p < 5) (hm : m < 5) (h : post (nI (m + 1), pr, ex, kd, ns, np, wo, en, st, pp, sp, pc, pg, pn, rg, ds, fi, ow, po, pw, pl, upd qu m (nI p), ou)) : wpX_joinQueue post (nI m, pr, ex, kd, ns, np, wo, en, st, pp, sp, pc, pg, pn, rg, ds, fi, ow, po, pw, pl, qu, ou) (nI p) := by
  refine br_f (nI_ge (b := 5) hm (by decide)) ⟨vp_in_nI hm (by decide), ?_⟩
  rw [ux_c (by omega)]
  exact nm_e (nm_r (nI_1 m) h)
theorem xs_lq (hm : m ≤ 5) (h : post (nI (ux_lk qu p m).2, pr, ex, kd, ns, np, wo, en, st, pp, sp, pc, pg, pn, rg, ds, fi, ow, po, pw, pl, (ux_lk qu p m).1, ou)) : ∀ r k, k + r = m → wX_leaveQueue_4 post (nI p) (nI m) pr ex (r + 1) (nI (ux_lk qu p k).2) (nI k) kd ns np wo en st pp sp pc pg pn rg ds fi ow po pw pl ((ux_lk qu p k).1) ou := by
  intro r
  induction r with
  | zero =>
    intro k hk
    have ek : k = m := by omega
    subst ek
    exact br_t (nI_le (Nat.le_refl _) (by omega)) h
  | succ r ih =>
    intro k hk
    have H := ih (k + 1) (by omega)
    have hle := (ux_lk_le (q := qu) (p := p) k).1
    refine br_f (nI_ge (by omega) (by omega)) ⟨vp_in_nI (by omega) (by decide), ?_⟩
    rw [ux_c (n := k) (by omega)]
    by_cases hc : (ux_lk qu p k).1 k = nI p
    · rw [ux_lk_t hc] at H
      exact br_t hc (nm_r (nI_1 k) H)
    · rw [ux_lk_f hc] at H
      refine br_f hc ⟨vp_in_nI (by omega) (by decide), vp_in_nI (by omega) (by decide), ?_⟩
      rw [ux_c (n := (ux_lk qu p k).2) (by omega)]
      exact nm_e (nm_r (nI_1 _) (nm_r (nI_1 k) H))
theorem xa_lq (hm : m ≤ 5) (h : post (nI (ux_lk qu p m).2, pr, ex, kd, ns, np, wo, en, st, pp, sp, pc, pg, pn, rg, ds, fi, ow, po, pw, pl, (ux_lk qu p m).1, ou)) : wpX_leaveQueue post (nI m, pr, ex, kd, ns, np, wo, en, st, pp, sp, pc, pg, pn, rg, ds, fi, ow, po, pw, pl, qu, ou) (nI p) :=
  ⟨m + 1, xs_lq hm h m 0 (by omega)⟩
theorem xs_ld (hp : p < 5) (hn : n < 10) (h : post (ql, pr, ex, kd, ns, np, wo, en, st, pp, upd sp p 0, pc, ux_cw pg wo (p * 20) (n * 20) 20, upd pn p (ns n), rg, ds, fi, ow, po, pw, pl, qu, ou)) : ∀ r i, i + r = 20 → wX_loadProgram_2 post (nI p) (nI n) ql pr ex (r + 1) (nI i) kd ns np wo en st pp sp pc (ux_cw pg wo (p * 20) (n * 20) i) pn rg ds fi ow po pw pl qu ou := by
  intro r
  induction r with
  | zero =>
    intro i hi
    have ei : i = 20 := by omega
    subst ei
    refine br_t (by decide) ⟨vp_in_nI hn (by decide), vp_in_nI hp (by decide), ?_⟩
    rw [ux_c (n := p) (by omega), ux_c (n := n) (by omega)]
    exact nm_e ⟨vp_in_nI hp (by decide), nm_e h⟩
  | succ r ih =>
    intro i hi
    have H := ih (i + 1) (by omega)
    have e1 : nI n * 20 + nI i = nI (n * 20 + i) := by rw [ux_mul_l, nI_add]
    have e2 : nI p * 20 + nI i = nI (p * 20 + i) := by rw [ux_mul_l, nI_add]
    refine br_f (nI_ge (b := 20) (by omega) (by decide)) ?_
    rw [e1, e2, ux_c (n := n * 20 + i) (by omega), ux_c (n := p * 20 + i) (by omega)]
    exact ⟨vp_in_nI (by omega) (by decide), vp_in_nI (by omega) (by decide), nm_e (nm_r (nI_1 i) H)⟩
theorem xa_ld (hp : p < 5) (hn : n < 10) (h : post (ql, pr, ex, kd, ns, np, wo, en, st, pp, upd sp p 0, pc, ux_cw pg wo (p * 20) (n * 20) 20, upd pn p (ns n), rg, ds, fi, ow, po, pw, pl, qu, ou)) : wpX_loadProgram post (ql, pr, ex, kd, ns, np, wo, en, st, pp, sp, pc, pg, pn, rg, ds, fi, ow, po, pw, pl, qu, ou) (nI p) (nI n) :=
  ⟨21, xs_ld hp hn h 20 0 (by omega)⟩
theorem xs_e26 (hp : p < 5) (hown : pp p ≠ nI p) (hx : (pp p = -1 ∧ x = 0) ∨ (pp p ≠ -1 ∧ x = 3)) (h : post (ql, pr, ex, kd, ns, np, wo, en, upd (ux_s1 st pp p 5) p x, ux_p1 pp p 5, upd sp p y, pc, pg, pn, rg, ds, fi, ow, po, pw, pl, qu, ou)) : ∀ r i, i + r = 5 → wX_endProcess_26 post (nI p) y ql pr ex (r + 1) (nI i) kd ns np wo en (ux_s1 st pp p i) (ux_p1 pp p i) sp pc pg pn rg ds fi ow po pw pl qu ou := by
  have cp : (nI p).toNatClampNeg = p := ux_c (by omega)
  have iv : vp_in (nI p) 5 := vp_in_nI hp (by decide)
  intro r
  induction r with
  | zero =>
    intro i hi
    have ei : i = 5 := by omega
    subst ei
    refine br_t (by decide) ⟨iv, ?_⟩
    have e1 : ux_p1 pp p 5 p = pp p := if_neg (fun z => hown z.2)
    rw [cp, e1]
    rcases hx with ⟨h1, h2⟩ | ⟨h1, h2⟩
    · subst h2
      exact br_t h1 ⟨iv, nm_e ⟨iv, nm_e h⟩⟩
    · subst h2
      exact br_f h1 ⟨iv, nm_e ⟨iv, nm_e h⟩⟩
  | succ r ih =>
    intro i hi
    have H := ih (i + 1) (by omega)
    have ci : (nI i).toNatClampNeg = i := ux_c (by omega)
    have ii : vp_in (nI i) 5 := vp_in_nI (by omega) (by decide)
    refine br_f (nI_ge (b := 5) (by omega) (by decide)) ⟨ii, ?_⟩
    rw [ci, ux_p1_at, ux_s1_at]
    by_cases h1 : pp i = nI p
    · rw [ux_p1_t h1] at H
      refine br_t h1 ⟨ii, nm_e ⟨ii, ?_⟩⟩
      by_cases h3 : st i = 3
      · rw [ux_s1_t h1 h3] at H
        exact br_t h3 ⟨ii, nm_e (nm_r (nI_1 i) H)⟩
      · rw [ux_s1_f (fun z => h3 z.2)] at H
        exact br_f h3 (nm_r (nI_1 i) H)
    · rw [ux_p1_f h1, ux_s1_f (fun z => h1 z.1)] at H
      exact br_f h1 (nm_r (nI_1 i) H)
theorem xs_e2 (hp : p < 5) (h : ∃ n, wX_endProcess_26 post (nI p) y ql pr ex n 0 kd ns np wo en st pp sp pc pg pn rg (ux_zp ds p) fi ow po pw pl qu ou) : ∀ r i, i + r = 4 → wX_endProcess_2 post (nI p) y ql pr ex (r + 1) (nI i) kd ns np wo en st pp sp pc pg pn rg (ux_zi ds p i) fi ow po pw pl qu ou := by
  intro r
  induction r with
  | zero =>
    intro i hi
    have ei : i = 4 := by omega
    subst ei
    exact br_t (by decide) h
  | succ r ih =>
    intro i hi
    have H := ih (i + 1) (by omega)
    rw [ux_zi_s] at H
    have e : nI p * 4 + nI i = nI (p * 4 + i) := by rw [ux_mul_l, nI_add]
    refine br_f (nI_ge (b := 4) (by omega) (by decide)) ?_
    rw [e, ux_c (n := p * 4 + i) (by omega)]
    exact ⟨vp_in_nI (by omega) (by decide), nm_e (nm_r (nI_1 i) H)⟩
theorem xa_en (hp : p < 5) (hown : pp p ≠ nI p) (hx : (pp p = -1 ∧ x = 0) ∨ (pp p ≠ -1 ∧ x = 3)) (h : post (ql, pr, ex, kd, ns, np, wo, en, upd (ux_s1 st pp p 5) p x, ux_p1 pp p 5, upd sp p y, pc, pg, pn, rg, ux_zp ds p, fi, ow, po, pw, pl, qu, ou)) : wpX_endProcess post (ql, pr, ex, kd, ns, np, wo, en, st, pp, sp, pc, pg, pn, rg, ds, fi, ow, po, pw, pl, qu, ou) (nI p) y := by
  have H := xs_e26 (ds := ux_zp ds p) hp hown hx h 5 0 (by omega)
  rw [ux_p1_0, ux_s1_0] at H
  exact ⟨5, xs_e2 hp ⟨6, H⟩ 4 0 (by omega)⟩
end UX14X
section UX14Y
variable {ql pr go : Int32} {ex : Int64} {kd ns le wo en et np st qp sp pn pg rg ee ds pc fi ow po pl pw qu ou : Nat → Int32}
variable {post : SY → Prop} {p n m i r : Nat} {x y : Int32}
theorem ya_jq (hp : p < 5) (hm : m < 6) (h : post (nI (m + 1), ex, pr, go, kd, le, wo, et, np, upd st p 1, qp, sp, pn, pg, rg, ee, pc, fi, ow, po, pl, pw, upd qu m (nI p), ou)) : wpY_join post (nI m, ex, pr, go, kd, le, wo, et, np, st, qp, sp, pn, pg, rg, ee, pc, fi, ow, po, pl, pw, qu, ou) (nI p) := by
  unfold wpY_join
  refine ⟨vp_in_nI hp (by decide), ?_⟩
  rw [ux_c (n := p) (by omega), ux_c (n := m) (by omega)]
  exact nm_e ⟨vp_in_nI hm (by decide), nm_e (nm_r (nI_1 m) h)⟩
theorem ys_lq (hm : m ≤ 5) (h : post (nI (ux_lk qu p m).2, ex, pr, go, kd, le, wo, et, np, st, qp, sp, pn, pg, rg, ee, pc, fi, ow, po, pl, pw, (ux_lk qu p m).1, ou)) : ∀ r k, k + r = m → wY_leave_4 post (nI p) (nI m) ex pr go (r + 1) (nI (ux_lk qu p k).2) (nI k) kd le wo et np st qp sp pn pg rg ee pc fi ow po pl pw ((ux_lk qu p k).1) ou := by
  intro r
  induction r with
  | zero =>
    intro k hk
    have ek : k = m := by omega
    subst ek
    exact br_t (nI_le (Nat.le_refl _) (by omega)) h
  | succ r ih =>
    intro k hk
    have H := ih (k + 1) (by omega)
    have hle := (ux_lk_le (q := qu) (p := p) k).1
    refine br_f (nI_ge (by omega) (by omega)) ⟨vp_in_nI (by omega) (by decide), ?_⟩
    rw [ux_c (n := k) (by omega)]
    by_cases hc : (ux_lk qu p k).1 k = nI p
    · rw [ux_lk_t hc] at H
      exact br_t hc (nm_r (nI_1 k) H)
    · rw [ux_lk_f hc] at H
      refine br_f hc ⟨vp_in_nI (by omega) (by decide), vp_in_nI (by omega) (by decide), ?_⟩
      rw [ux_c (n := (ux_lk qu p k).2) (by omega)]
      exact nm_e (nm_r (nI_1 _) (nm_r (nI_1 k) H))
theorem ya_lq (hm : m ≤ 5) (h : post (nI (ux_lk qu p m).2, ex, pr, go, kd, le, wo, et, np, st, qp, sp, pn, pg, rg, ee, pc, fi, ow, po, pl, pw, (ux_lk qu p m).1, ou)) : wpY_leave post (nI m, ex, pr, go, kd, le, wo, et, np, st, qp, sp, pn, pg, rg, ee, pc, fi, ow, po, pl, pw, qu, ou) (nI p) :=
  ⟨m + 1, ys_lq hm h m 0 (by omega)⟩
theorem ys_ld (hp : p < 5) (hn : n < 10) (h : post (ql, ex, pr, go, kd, le, wo, et, np, st, qp, upd sp p 0, pn, ux_cw pg wo (p * 20) (n * 20) 20, rg, ee, pc, fi, ow, po, pl, pw, qu, ou)) : ∀ r i, i + r = 20 → wY_load_14 post (nI p) (nI n) ql ex pr go (r + 1) (nI i) kd le wo et np st qp sp pn (ux_cw pg wo (p * 20) (n * 20) i) rg ee pc fi ow po pl pw qu ou := by
  intro r
  induction r with
  | zero =>
    intro i hi
    have ei : i = 20 := by omega
    subst ei
    refine br_t (by decide) ⟨vp_in_nI hp (by decide), ?_⟩
    rw [ux_c (n := p) (by omega)]
    exact nm_e h
  | succ r ih =>
    intro i hi
    have H := ih (i + 1) (by omega)
    have e1 : 20 * nI n + nI i = nI (n * 20 + i) := by rw [ux_l_mul, nI_add, Nat.mul_comm]
    have e2 : 20 * nI p + nI i = nI (p * 20 + i) := by rw [ux_l_mul, nI_add, Nat.mul_comm]
    refine br_f (nI_ge (b := 20) (by omega) (by decide)) ?_
    rw [e1, e2, ux_c (n := n * 20 + i) (by omega), ux_c (n := p * 20 + i) (by omega)]
    exact ⟨vp_in_nI (by omega) (by decide), vp_in_nI (by omega) (by decide), nm_e (nm_r (nI_1 i) H)⟩
theorem ya_ld (hp : p < 5) (hn : n < 10) (h : post (ql, ex, pr, go, kd, le, wo, et, np, st, qp, upd sp p 0, upd pn p (le n), ux_cw pg wo (p * 20) (n * 20) 20, rg, ee, pc, fi, ow, po, pl, pw, qu, ou)) : wpY_load post (ql, ex, pr, go, kd, le, wo, et, np, st, qp, sp, pn, pg, rg, ee, pc, fi, ow, po, pl, pw, qu, ou) (nI p) (nI n) := by
  unfold wpY_load
  refine ⟨vp_in_nI hn (by decide), vp_in_nI hp (by decide), ?_⟩
  rw [ux_c (n := p) (by omega), ux_c (n := n) (by omega)]
  exact nm_e ⟨21, ys_ld hp hn h 20 0 (by omega)⟩
theorem ys_e111 (hp : p < 5) (hK : ux_K kd) (hE : ux_E kd en) (hD : ux_D ds) (h : post (ql, ex, pr, go, ux_ck kd en ds fi, le, wo, ux_EN en, np, upd st p x, qp, upd sp p y, pn, pg, rg, ux_ED ds, pc, fi, ow, po, pl, pw, qu, ou)) : wY_end_111 post (nI p) y x (nI p) ql ex pr go kd le wo (ux_EN en) np st qp sp pn pg rg (ux_ED ds) pc fi ow po pl pw qu ou := by
  unfold wY_end_111
  rw [ux_c (n := p) (by omega)]
  exact ⟨vp_in_nI hp (by decide), nm_e ⟨vp_in_nI hp (by decide), nm_e (ya_cl hK hE hD h)⟩⟩
theorem ys_e33 (hp : p < 5) (hx : (¬ 0 ≤ qp p ∧ x = 0) ∨ (0 ≤ qp p ∧ x = 3)) (h : wY_end_111 post (nI p) y x (nI p) ql ex pr go kd le wo et np (ux_s2 st qp p 5) (ux_p2 st qp p 5) sp pn pg rg ee pc fi ow po pl pw qu ou) : ∀ r i, i + r = 5 → wY_end_33 post (nI p) y ql ex pr go (r + 1) (nI i) kd le wo et np (ux_s2 st qp p i) (ux_p2 st qp p i) sp pn pg rg ee pc fi ow po pl pw qu ou := by
  have cp : (nI p).toNatClampNeg = p := ux_c (by omega)
  have iv : vp_in (nI p) 5 := vp_in_nI hp (by decide)
  intro r
  induction r with
  | zero =>
    intro i hi
    have ei : i = 5 := by omega
    subst ei
    refine br_t (by decide) ⟨iv, ?_⟩
    have e1 : ux_p2 st qp p 5 p = qp p := if_neg (fun z => z.2.1 rfl)
    rw [cp, e1]
    rcases hx with ⟨h1, h2⟩ | ⟨h1, h2⟩
    · subst h2
      exact br_f h1 h
    · subst h2
      exact br_t h1 h
  | succ r ih =>
    intro i hi
    have H := ih (i + 1) (by omega)
    have ci : (nI i).toNatClampNeg = i := ux_c (by omega)
    have ii : vp_in (nI i) 5 := vp_in_nI (by omega) (by decide)
    refine br_f (nI_ge (b := 5) (by omega) (by decide)) ?_
    by_cases h0 : i = p
    · rw [ux_p2_f (fun z => z.1 h0), ux_s2_f (fun z => z.1 h0)] at H
      exact br_t (congrArg nI h0) (nm_r (nI_1 i) H)
    · refine br_f (ux_ne h0 (by omega) (by omega)) ⟨ii, ?_⟩
      rw [ci, ux_p2_at, ux_s2_at]
      by_cases hz : st i = 0
      · rw [ux_p2_f (fun z => z.2.1 hz), ux_s2_f (fun z => z.2.1 hz)] at H
        exact br_t hz (nm_r (nI_1 i) H)
      · refine br_f hz ⟨ii, ?_⟩
        by_cases h1 : qp i = nI p
        · rw [ux_p2_t h0 hz h1] at H
          refine br_t h1 ⟨ii, nm_e ⟨ii, ?_⟩⟩
          by_cases h3 : st i = 3
          · rw [ux_s2_t h0 hz h1 h3] at H
            exact br_t h3 ⟨ii, nm_e (nm_r (nI_1 i) H)⟩
          · rw [ux_s2_f (fun z => h3 z.2.2.2)] at H
            exact br_f h3 (nm_r (nI_1 i) H)
        · rw [ux_p2_f (fun z => h1 z.2.2), ux_s2_f (fun z => h1 z.2.2.1)] at H
          exact br_f h1 (nm_r (nI_1 i) H)
theorem ys_e9 (hp : p < 5) (h : ∃ n, wY_end_33 post (nI p) y ql ex pr go n 0 kd le wo et np st qp sp pn pg rg (ux_zp ee p) pc fi ow po pl pw qu ou) : ∀ r i, i + r = 4 → wY_end_9 post (nI p) y ql ex pr go (r + 1) (nI (p * 4 + i)) kd le wo et np st qp sp pn pg rg (ux_zi ee p i) pc fi ow po pl pw qu ou := by
  have e : 4 * nI p + 4 = nI (p * 4 + 4) := by rw [ux_l_mul, ux_add_l, Nat.mul_comm]
  intro r
  induction r with
  | zero =>
    intro i hi
    have ei : i = 4 := by omega
    subst ei
    exact br_t (by rw [e]; exact nI_le (Nat.le_refl _) (by omega)) h
  | succ r ih =>
    intro i hi
    have H := ih (i + 1) (by omega)
    rw [ux_zi_s] at H
    refine br_f (by rw [e]; exact nI_ge (by omega) (by omega)) ?_
    rw [ux_c (n := p * 4 + i) (by omega)]
    exact ⟨vp_in_nI (by omega) (by decide), nm_e (nm_r (nI_1 _) H)⟩
theorem ya_en (hm : m ≤ 5) (hp : p < 5) (hK : ux_K kd) (hE : ux_E kd en) (hD : ux_D ds) (hx : (¬ 0 ≤ qp p ∧ x = 0) ∨ (0 ≤ qp p ∧ x = 3))
    (h : post (nI (ux_lk qu p m).2, ex, pr, go, ux_ck kd en (ux_zp ds p) fi, le, wo, ux_EN en, np, upd (ux_s2 st qp p 5) p x, ux_p2 st qp p 5, upd sp p y, pn, pg, rg, ux_ED (ux_zp ds p), pc, fi, ow, po, pl, pw, (ux_lk qu p m).1, ou)) :
    wpY_end post (nI m, ex, pr, go, kd, le, wo, ux_EN en, np, st, qp, sp, pn, pg, rg, ux_ED ds, pc, fi, ow, po, pl, pw, qu, ou) (nI p) y := by
  unfold wpY_end
  refine ya_lq hm (nm_r (e' := nI (p * 4 + 0)) (by rw [ux_l_mul, Nat.mul_comm]; rfl) ⟨5, ys_e9 (ee := ux_ED ds) hp ?_ 4 0 (by omega)⟩)
  rw [← ux_ED_zp]
  have H := ys_e33 (y := y) (qu := (ux_lk qu p m).1) (ql := nI (ux_lk qu p m).2) hp hx (ys_e111 (st := ux_s2 st qp p 5) (qp := ux_p2 st qp p 5) hp hK hE (ux_D_zp (p := p) hD) h) 5 0 (by omega)
  rw [ux_p2_0, ux_s2_0] at H
  exact ⟨6, H⟩
end UX14Y
