section UX9
variable {ql pr go : Int32} {ex : Int64} {kd ns le wo en et np st qp sp pn pg rg ee ds pc fi ow po pl pw qu ou : Nat → Int32}
variable {post : Int32 → Prop} {d a n p c k o m : Nat} {x r w lo hi : Int32}
theorem ux_gt {x : Int32} {n : Nat} (hn : n + 1 < 2 ^ 31) (h : nI (n + 1) ≤ x) : nI n < x := Int32.not_le.mp (ux_hi1 hn h)
theorem ya_inT (h1 : ¬ x < lo) (h2 : ¬ hi < x) (h : post 1) : wpY_in post (ql, ex, pr, go, kd, le, wo, et, np, st, qp, sp, pn, pg, rg, ee, pc, fi, ow, po, pl, pw, qu, ou) x lo hi := br_f h1 (br_f h2 h)
theorem ya_inF (h1 : x < lo ∨ hi < x) (h : post 0) : wpY_in post (ql, ex, pr, go, kd, le, wo, et, np, st, qp, sp, pn, pg, rg, ee, pc, fi, ow, po, pl, pw, qu, ou) x lo hi := by
  by_cases h2 : x < lo
  · exact br_t h2 h
  · rcases h1 with h1 | h1
    · exact absurd h1 h2
    · exact br_f h2 (br_t h1 h)
theorem ya_inN {b e : Nat} (h1 : b ≤ a) (h2 : a ≤ e) (he : e < 100000) (h : post 1) : wpY_in post (ql, ex, pr, go, kd, le, wo, et, np, st, qp, sp, pn, pg, rg, ee, pc, fi, ow, po, pl, pw, qu, ou) (nI a) (nI b) (nI e) :=
  ya_inT (nI_nlt h1 (by omega)) (nI_nlt h2 (by omega)) h
theorem ya_inO {b e : Nat} (h1 : a < b ∨ e < a) (ha : a < 100000) (hb : b < 100000) (h : post 0) : wpY_in post (ql, ex, pr, go, kd, le, wo, et, np, st, qp, sp, pn, pg, rg, ee, pc, fi, ow, po, pl, pw, qu, ou) (nI a) (nI b) (nI e) := by
  rcases h1 with h1 | h1
  · exact ya_inF (Or.inl (nI_lt h1 (by omega))) h
  · exact ya_inF (Or.inr (nI_lt h1 (by omega))) h
theorem ya_inR (n : Nat) (hn : n + 1 < 100000) (hr : r < 0 ∨ (¬ r < 0 ∧ nI (n + 1) ≤ r)) (h : post 0) : wpY_in post (ql, ex, pr, go, kd, le, wo, et, np, st, qp, sp, pn, pg, rg, ee, pc, fi, ow, po, pl, pw, qu, ou) r 0 (nI n) := by
  rcases hr with h1 | ⟨_, h2⟩
  · exact ya_inF (Or.inl h1) h
  · exact ya_inF (Or.inr (ux_gt (by omega) h2)) h
theorem ya_nmA (hd : d < 10) (ha : a < 15) (h : post (et (15 * d + a))) : wpY_named post (ql, ex, pr, go, kd, le, wo, et, np, st, qp, sp, pn, pg, rg, ee, pc, fi, ow, po, pl, pw, qu, ou) (nI d) (nI a) := by
  unfold wpY_named
  have e : 15 * nI d + nI a = nI (15 * d + a) := by rw [ux_l_mul, nI_add]
  refine ya_inN (b := 0) (e := 14) (by omega) (by omega) (by omega) (br_f (by decide) ⟨?_, ?_⟩)
  · rw [e]; exact vp_in_nI (by omega) (by decide)
  · rw [e, ux_c (by omega)]; exact h
theorem ya_nmN (hd : d < 10) (hr : ux_no en d r) (h : post (-1)) : wpY_named post (ql, ex, pr, go, kd, le, wo, ux_EN en, np, st, qp, sp, pn, pg, rg, ee, pc, fi, ow, po, pl, pw, qu, ou) (nI d) r := by
  rcases hr with ⟨a, ha, e, h0⟩ | hr
  · rw [e]
    refine ya_nmA hd ha ?_
    rw [Nat.mul_comm 15 d, ux_EN_0 (by omega) h0]; exact h
  · unfold wpY_named
    exact ya_inR 14 (by omega) hr (br_t rfl h)
theorem ya_nmY (hd : d < 10) (hr : ux_ye en d r a n) (h : post (nI n)) : wpY_named post (ql, ex, pr, go, kd, le, wo, ux_EN en, np, st, qp, sp, pn, pg, rg, ee, pc, fi, ow, po, pl, pw, qu, ou) (nI d) r := by
  obtain ⟨h1, h2, h3, h4, h5⟩ := hr
  rw [h2]
  refine ya_nmA hd h1 ?_
  rw [Nat.mul_comm 15 d, ux_EN_1 (by omega) (by rw [h5]; exact ux_nz h3 (by omega)), h5]; exact h
/-! searches -/
theorem ys_fn : ∀ d i f, i + d ≤ 10 → (∀ j, i ≤ j → j < i + d → kd j ≠ 0) → wY_smallestNode_2 post ql ex pr go kd le wo et np st qp sp pn pg rg ee pc fi ow po pl pw qu ou f (nI (i + d)) → wY_smallestNode_2 post ql ex pr go kd le wo et np st qp sp pn pg rg ee pc fi ow po pl pw qu ou (f + d) (nI i) := by
  intro d
  induction d with
  | zero => intro i f _ _ h; exact h
  | succ d ih =>
    intro i f hi hj h
    refine br_f (nI_ge (b := 10) (by omega) (by decide)) ⟨vp_in_nI (by omega) (by decide), br_f (by rw [ux_c (by omega)]; exact hj i (by omega) (by omega)) (nm_r (nI_1 i) ?_)⟩
    exact ih (i + 1) f (by omega) (fun j h1 h2 => hj j (by omega) (by omega)) (by rw [show i + 1 + d = i + (d + 1) by omega]; exact h)
theorem ya_fr (hn : n < 10) (h0 : kd n = 0) (hj : ∀ j, j < n → kd j ≠ 0) (h : post (nI n)) : wpY_smallestNode post (ql, ex, pr, go, kd, le, wo, et, np, st, qp, sp, pn, pg, rg, ee, pc, fi, ow, po, pl, pw, qu, ou) := by
  refine ⟨1 + n, ys_fn n 0 1 (by omega) (fun j _ h2 => hj j (by omega)) ?_⟩
  rw [Nat.zero_add]
  exact br_f (nI_ge (b := 10) (by omega) (by decide)) ⟨vp_in_nI (by omega) (by decide), br_t (by rw [ux_c (by omega)]; exact h0) h⟩
theorem ya_fr0 (hj : ∀ j, j < 10 → kd j ≠ 0) (h : post (-1)) : wpY_smallestNode post (ql, ex, pr, go, kd, le, wo, et, np, st, qp, sp, pn, pg, rg, ee, pc, fi, ow, po, pl, pw, qu, ou) := by
  refine ⟨1 + 10, ys_fn 10 0 1 (by omega) (fun j _ h2 => hj j (by omega)) ?_⟩
  exact br_t (by decide) h
theorem ys_fp : ∀ d i f, i + d ≤ 5 → (∀ j, i ≤ j → j < i + d → st j ≠ 0) → wY_smallestProcess_2 post ql ex pr go kd le wo et np st qp sp pn pg rg ee pc fi ow po pl pw qu ou f (nI (i + d)) → wY_smallestProcess_2 post ql ex pr go kd le wo et np st qp sp pn pg rg ee pc fi ow po pl pw qu ou (f + d) (nI i) := by
  intro d
  induction d with
  | zero => intro i f _ _ h; exact h
  | succ d ih =>
    intro i f hi hj h
    refine br_f (nI_ge (b := 5) (by omega) (by decide)) ⟨vp_in_nI (by omega) (by decide), br_f (by rw [ux_c (by omega)]; exact hj i (by omega) (by omega)) (nm_r (nI_1 i) ?_)⟩
    exact ih (i + 1) f (by omega) (fun j h1 h2 => hj j (by omega) (by omega)) (by rw [show i + 1 + d = i + (d + 1) by omega]; exact h)
theorem ya_fp (hn : p < 5) (h0 : st p = 0) (hj : ∀ j, j < p → st j ≠ 0) (h : post (nI p)) : wpY_smallestProcess post (ql, ex, pr, go, kd, le, wo, et, np, st, qp, sp, pn, pg, rg, ee, pc, fi, ow, po, pl, pw, qu, ou) := by
  refine ⟨1 + p, ys_fp p 0 1 (by omega) (fun j _ h2 => hj j (by omega)) ?_⟩
  rw [Nat.zero_add]
  exact br_f (nI_ge (b := 5) (by omega) (by decide)) ⟨vp_in_nI (by omega) (by decide), br_t (by rw [ux_c (by omega)]; exact h0) h⟩
theorem ya_fp0 (hj : ∀ j, j < 5 → st j ≠ 0) (h : post (-1)) : wpY_smallestProcess post (ql, ex, pr, go, kd, le, wo, et, np, st, qp, sp, pn, pg, rg, ee, pc, fi, ow, po, pl, pw, qu, ou) := by
  refine ⟨1 + 5, ys_fp 5 0 1 (by omega) (fun j _ h2 => hj j (by omega)) ?_⟩
  exact br_t (by decide) h
theorem ys_ih : ∀ d i f, i + d ≤ 20 → (∀ j, i ≤ j → j < i + d → ee j ≠ w) → wY_has_2 post w ql ex pr go kd le wo et np st qp sp pn pg rg ee pc fi ow po pl pw qu ou f (nI (i + d)) → wY_has_2 post w ql ex pr go kd le wo et np st qp sp pn pg rg ee pc fi ow po pl pw qu ou (f + d) (nI i) := by
  intro d
  induction d with
  | zero => intro i f _ _ h; exact h
  | succ d ih =>
    intro i f hi hj h
    refine br_f (nI_ge (b := 20) (by omega) (by decide)) ⟨vp_in_nI (by omega) (by decide), br_f (by rw [ux_c (by omega)]; exact hj i (by omega) (by omega)) (nm_r (nI_1 i) ?_)⟩
    exact ih (i + 1) f (by omega) (fun j h1 h2 => hj j (by omega) (by omega)) (by rw [show i + 1 + d = i + (d + 1) by omega]; exact h)
theorem ya_h1 (hh : ux_hd ee w) (h : post 1) : wpY_has post (ql, ex, pr, go, kd, le, wo, et, np, st, qp, sp, pn, pg, rg, ee, pc, fi, ow, po, pl, pw, qu, ou) w := by
  rcases ux_ls (fun j => ee j = w) 20 with ⟨i, hi, e, hj⟩ | hno
  · refine ⟨1 + i, ys_ih i 0 1 (by omega) (fun j _ h2 => hj j (by omega)) ?_⟩
    rw [Nat.zero_add]
    exact br_f (nI_ge (b := 20) (by omega) (by decide)) ⟨vp_in_nI (by omega) (by decide), br_t (by rw [ux_c (by omega)]; exact e) h⟩
  · obtain ⟨j, hj, e⟩ := hh
    exact absurd e (hno j hj)
theorem ya_h0 (hh : ¬ ux_hd ee w) (h : post 0) : wpY_has post (ql, ex, pr, go, kd, le, wo, et, np, st, qp, sp, pn, pg, rg, ee, pc, fi, ow, po, pl, pw, qu, ou) w := by
  refine ⟨1 + 20, ys_ih 20 0 1 (by omega) (fun j _ h2 e => hh ⟨j, by omega, e⟩) ?_⟩
  exact br_t (by decide) h
theorem ys_nd (hp : p < 5) : ∀ d i f, i + d ≤ 4 → (∀ j, i ≤ j → j < i + d → ee (4 * p + j) ≠ 0) → wY_newDescriptor_2 post (nI p) ql ex pr go kd le wo et np st qp sp pn pg rg ee pc fi ow po pl pw qu ou f (nI (i + d)) → wY_newDescriptor_2 post (nI p) ql ex pr go kd le wo et np st qp sp pn pg rg ee pc fi ow po pl pw qu ou (f + d) (nI i) := by
  intro d
  induction d with
  | zero => intro i f _ _ h; exact h
  | succ d ih =>
    intro i f hi hj h
    have e : 4 * nI p + nI i = nI (4 * p + i) := by rw [ux_l_mul, nI_add]
    refine br_f (nI_ge (b := 4) (by omega) (by decide)) ⟨by rw [e]; exact vp_in_nI (by omega) (by decide), br_f (by rw [e, ux_c (by omega)]; exact hj i (by omega) (by omega)) (nm_r (nI_1 i) ?_)⟩
    exact ih (i + 1) f (by omega) (fun j h1 h2 => hj j (by omega) (by omega)) (by rw [show i + 1 + d = i + (d + 1) by omega]; exact h)
theorem ux_ED0 (hD : ux_D ds) (hk : k < 20) : ux_ED ds k = 0 ↔ ds k = 0 := ux_cv_0 (hD k hk)
theorem ya_nd (hD : ux_D ds) (hp : p < 5) (hf : ux_fd ds p a c) (h : post (nI c)) : wpY_newDescriptor post (ql, ex, pr, go, kd, le, wo, et, np, st, qp, sp, pn, pg, rg, ux_ED ds, pc, fi, ow, po, pl, pw, qu, ou) (nI p) (nI a) := by
  obtain ⟨h1, h2, h3, h4⟩ := hf
  have e : 4 * nI p + nI c = nI (4 * p + c) := by rw [ux_l_mul, nI_add]
  refine ⟨1 + (c - a), ys_nd hp (c - a) a 1 (by omega) (fun j g1 g2 => ?_) ?_⟩
  · rw [Nat.mul_comm 4 p]
    exact fun z => h4 j g1 (by omega) ((ux_ED0 hD (by omega)).mp z)
  · rw [show a + (c - a) = c by omega]
    refine br_f (nI_ge (b := 4) (by omega) (by decide)) ⟨by rw [e]; exact vp_in_nI (by omega) (by decide), br_t ?_ h⟩
    rw [e, ux_c (by omega), Nat.mul_comm 4 p]; exact (ux_ED0 hD (by omega)).mpr h3
theorem ya_nd0 (hD : ux_D ds) (hp : p < 5) (hf : ux_nf ds p a) (h : post (-1)) : wpY_newDescriptor post (ql, ex, pr, go, kd, le, wo, et, np, st, qp, sp, pn, pg, rg, ux_ED ds, pc, fi, ow, po, pl, pw, qu, ou) (nI p) (nI a) := by
  have ha := hf.1
  refine ⟨1 + (4 - a), ys_nd hp (4 - a) a 1 (by omega) (fun j g1 g2 => ?_) ?_⟩
  · rw [Nat.mul_comm 4 p]
    exact fun z => hf.2 j g1 (by omega) ((ux_ED0 hD (by omega)).mp z)
  · rw [show a + (4 - a) = 4 by omega]
    exact br_t (by decide) h
theorem ys_fo (hD : ux_D ds) : ∀ d i f, i + d ≤ 8 → (∀ j, i ≤ j → j < i + d → ux_hd ds (nI (1 + j))) → wY_smallestOpening_2 post ql ex pr go kd le wo et np st qp sp pn pg rg (ux_ED ds) pc fi ow po pl pw qu ou f (nI (i + d)) → wY_smallestOpening_2 post ql ex pr go kd le wo et np st qp sp pn pg rg (ux_ED ds) pc fi ow po pl pw qu ou (f + d) (nI i) := by
  intro d
  induction d with
  | zero => intro i f _ _ h; exact h
  | succ d ih =>
    intro i f hi hj h
    refine br_f (nI_ge (b := 8) (by omega) (by decide)) ?_
    rw [ux_l_add]
    refine ya_h1 ((ux_hd_o hD (by omega)).mpr (hj i (by omega) (by omega))) (br_f (by decide) (nm_r (nI_1 i) ?_))
    exact ih (i + 1) f (by omega) (fun j h1 h2 => hj j (by omega) (by omega)) (by rw [show i + 1 + d = i + (d + 1) by omega]; exact h)
theorem ya_fo (hD : ux_D ds) (ho : o < 8) (h0 : ¬ ux_hd ds (nI (1 + o))) (hj : ∀ j, j < o → ux_hd ds (nI (1 + j))) (h : post (nI o)) : wpY_smallestOpening post (ql, ex, pr, go, kd, le, wo, et, np, st, qp, sp, pn, pg, rg, ux_ED ds, pc, fi, ow, po, pl, pw, qu, ou) := by
  refine ⟨1 + o, ys_fo hD o 0 1 (by omega) (fun j _ h2 => hj j (by omega)) ?_⟩
  rw [Nat.zero_add]
  refine br_f (nI_ge (b := 8) (by omega) (by decide)) ?_
  rw [ux_l_add]
  exact ya_h0 (fun z => h0 ((ux_hd_o hD ho).mp z)) (br_t rfl h)
theorem ya_fo0 (hD : ux_D ds) (hj : ∀ j, j < 8 → ux_hd ds (nI (1 + j))) (h : post (-1)) : wpY_smallestOpening post (ql, ex, pr, go, kd, le, wo, et, np, st, qp, sp, pn, pg, rg, ux_ED ds, pc, fi, ow, po, pl, pw, qu, ou) := by
  refine ⟨1 + 8, ys_fo hD 8 0 1 (by omega) (fun j _ h2 => hj j (by omega)) ?_⟩
  exact br_t (by decide) h
/-! counting -/
theorem ys_eo (hE : ux_E kd en) (hd : d < 10) (h : post (nI (ux_cn en d))) : ∀ r i, i + r = 15 → wY_entriesOf_7 post (nI d) ql ex pr go kd le wo (ux_EN en) np st qp sp pn pg rg ee pc fi ow po pl pw qu ou (r + 1) (nI (ux_ct (fun j => en (d * 15 + j)) i)) (nI (15 * d + i)) := by
  have e : 15 * nI d + 15 = nI (15 * d + 15) := by rw [ux_l_mul, ux_add_l]
  intro r
  induction r with
  | zero =>
    intro i hi
    have ei : i = 15 := by omega
    subst ei
    exact br_t (by rw [e]; exact nI_le (Nat.le_refl _) (by omega)) h
  | succ r ih =>
    intro i hi
    refine br_f (by rw [e]; exact nI_ge (by omega) (by omega)) ⟨vp_in_nI (by omega) (by decide), ?_⟩
    rw [ux_c (by omega)]
    have H := ih (i + 1) (by omega)
    rw [ux_ct_s] at H
    by_cases hz : en (d * 15 + i) = 0
    · rw [if_pos hz] at H
      refine br_t ?_ (nm_r (nI_1 _) H)
      rw [Nat.mul_comm 15 d, ux_EN_0 (by omega) hz]; decide
    · rw [if_neg hz] at H
      refine br_f ?_ (nm_r (nI_1 _) (nm_r (nI_1 _) H))
      exact Int32.not_lt.mpr (by rw [Nat.mul_comm 15 d]; exact (ux_EN_ge hE (by omega)).mpr hz)
theorem ya_eo (hE : ux_E kd en) (hd : d < 10) (h : post (nI (ux_cn en d))) : wpY_entriesOf post (ql, ex, pr, go, kd, le, wo, ux_EN en, np, st, qp, sp, pn, pg, rg, ee, pc, fi, ow, po, pl, pw, qu, ou) (nI d) := by
  unfold wpY_entriesOf
  refine nm_r (ux_l_mul d 15) ⟨16, ?_⟩
  exact ys_eo hE hd h 15 0 (by omega)
/-! a child -/
theorem ys_ec (hp : p < 5) (h : post (ux_ec st qp p 5)) : ∀ r n, r + n = 5 → wY_endedChild_5 post (nI p) ql ex pr go kd le wo et np st qp sp pn pg rg ee pc fi ow po pl pw qu ou (r + 1) (ux_ec st qp p n) (if r = 0 then -1 else nI (r - 1)) := by
  intro r
  induction r with
  | zero =>
    intro n hn
    have en : n = 5 := by omega
    subst en
    exact br_t (by decide) h
  | succ r ih =>
    intro n hn
    have H := ih (n + 1) (by omega)
    have e4 : 4 - n = r := by omega
    rw [ux_ec_s, e4] at H
    have ix : nI r + (-1) = if r = 0 then -1 else nI (r - 1) := by
      by_cases hr : r = 0
      · rw [hr]; decide
      · rw [if_neg hr]
        obtain ⟨s, rfl⟩ : ∃ s, r = s + 1 := ⟨r - 1, by omega⟩
        exact ux_m1 s
    rw [if_neg (by omega : ¬ r + 1 = 0), Nat.add_sub_cancel]
    have cl : (nI r).toNatClampNeg = r := ux_c (by omega)
    refine br_f (nI_pos (by omega)) ⟨vp_in_nI (by omega) (by decide), ?_⟩
    rw [cl]
    by_cases h0 : st r = 0
    · rw [if_neg (fun z => z.1 h0)] at H
      exact br_t h0 (nm_r ix H)
    · refine br_f h0 ⟨vp_in_nI (by omega) (by decide), ?_⟩
      by_cases hq : qp r = nI p
      · rw [if_pos ⟨h0, hq⟩] at H
        refine br_t hq ⟨vp_in_nI (by omega) (by decide), ?_⟩
        by_cases h3 : st r = 3
        · rw [if_pos h3] at H
          exact br_t h3 (nm_r ix H)
        · rw [if_neg h3] at H
          refine br_f h3 ?_
          by_cases h2 : ux_ec st qp p n = -2
          · rw [if_pos h2] at H
            exact br_t h2 (nm_r ix H)
          · rw [if_neg h2] at H
            exact br_f h2 (nm_r ix H)
      · rw [if_neg (fun z => hq z.2)] at H
        exact br_f hq (nm_r ix H)
theorem ya_ec (hp : p < 5) (h : post (ux_ec st qp p 5)) : wpY_endedChild post (ql, ex, pr, go, kd, le, wo, et, np, st, qp, sp, pn, pg, rg, ee, pc, fi, ow, po, pl, pw, qu, ou) (nI p) :=
  ⟨6, ys_ec hp h 5 0 (by omega)⟩
end UX9
