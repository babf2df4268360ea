section UX29
theorem i_vc_run {k : Nat} {u : SX} {v : SY} (I : i_Rel k u v) (hk : k + 4 ≤ 2048) (v1 : Int32) : wpX_run (fun r u' => wpY_run (fun r' v' => r' = r ∧ i_Rel (k + 4) u' v') v v1) u v1 := by
  have go1 : ∀ t, t ≤ 80 → ∃ r u2 v2, i_Rel (k + 4) u2 v2 ∧ (∀ post : Int32 → SX → Prop, post r u2 → match u with | (ql, pr, ex, kd, ns, np, wo, en, st, pp, sp, pc, pg, pn, rg, ds, fi, ow, po, pw, pl, qu, ou) => wX_run_18 post (nI (0 + t)) (t + 1) (nI 0) (nI 0) ql pr ex kd ns np wo en st pp sp pc pg pn rg ds fi ow po pw pl qu ou) ∧ (∀ post : Int32 → SY → Prop, post r v2 → match v with | (ql, ex, pr, go, kd, ns, wo, en, np, st, qp, sp, pn, pg, rg, ds, pc, fi, ow, po, pl, pw, qu, ou) => wY_run_23 post (nI (0 + t)) (t + 1) (nI 0) ql ex pr go kd ns wo en np st qp sp pn pg rg ds pc fi ow po pl pw qu ou) := by
    intro t ht
    obtain ⟨r, u2, v2, hA, h1, h2⟩ := ux_run t 0 (60 * k) u v (by omega) (by omega) I
    exact ⟨r, u2, v2, ux_A_mono hA (by omega), h1, h2⟩
  have I4 := i_up I
  obtain ⟨ex, kd, ns, np, wo, en, st, pp, sp, pc, pg, pn, rg, ds, fi, ow, po, pw, pl, qu, ou, qp, go, m, c, rfl, rfl, hJ⟩ := I
  by_cases h0 : v1 < 0
  · have h80 : v1 ≤ 80 := Int32.le_trans (Int32.le_of_lt h0) (by decide)
    refine br_t h80 ⟨1, br_t (Int32.le_of_lt h0) ?_⟩
    exact br_f (ux_ng h0) ⟨1, br_t (by decide) ⟨rfl, I4⟩⟩
  · by_cases h80 : v1 ≤ 80
    · obtain ⟨t, ht, rfl⟩ := nI_of h0
      have ht2 : t ≤ 80 := (nI_leI (b := 80) ht (by decide)).mp h80
      obtain ⟨r, u2, v2, hA, h1, h2⟩ := go1 t ht2
      rw [Nat.zero_add] at h1 h2
      exact br_t h80 ⟨t + 1, h1 _ (br_t (ux_nl h0) (br_t h80 ⟨t + 1, h2 _ ⟨rfl, hA⟩⟩))⟩
    · obtain ⟨r, u2, v2, hA, h1, h2⟩ := go1 80 (by omega)
      exact br_f h80 ⟨81, h1 _ (br_t (ux_nl h0) (br_f h80 ⟨81, h2 _ ⟨rfl, hA⟩⟩))⟩
end UX29
section UX29B
variable {ql pr go : Int32} {ex : Int64} {kd ns le wo en et np st qp sp pn pg rg ee ds pc fi ow po pl pw qu ou : Nat → Int32}
variable {post : SY → Prop}
theorem ys_in (h : post (ql, ex, pr, go, upd kd 0 2, le, wo, ux_EN (fun _ => 0), np, st, qp, sp, pn, pg, rg, ee, pc, fi, ow, po, pl, pw, qu, ou)) : ∀ r i, i + r = 150 → wY_init_177 post ql ex pr go (r + 1) (nI i) kd le wo (fun j => if j < i then -1 else 0) np st qp sp pn pg rg ee pc fi ow po pl pw qu ou := by
  intro r
  induction r with
  | zero =>
    intro i hi
    have ei : i = 150 := by omega
    subst ei
    exact br_t (by decide) (nm_e h)
  | succ r ih =>
    intro i hi
    have H := ih (i + 1) (by omega)
    have e : (fun j => if j < i + 1 then (-1 : Int32) else 0) = upd (fun j => if j < i then (-1 : Int32) else 0) i (-1) := by
      funext j
      by_cases ej : j = i
      · rw [ej, ux_us]; exact if_pos (by omega)
      · rw [ux_un ej]
        by_cases hl : j < i
        · rw [if_pos hl, if_pos (by omega)]
        · rw [if_neg hl, if_neg (by omega)]
    rw [e] at H
    refine br_f (nI_ge (b := 150) (by omega) (by decide)) ⟨vp_in_nI (by omega) (by decide), ?_⟩
    rw [ux_c (n := i) (by omega)]
    exact nm_e (nm_r (nI_1 i) H)
end UX29B
section UX29C
theorem ux_J0 : ux_J 0 (upd (fun _ => 0) 0 2) (fun _ => 0) (upd (fun _ => 0) 0 0) (fun _ => 0) (fun _ => 0) (fun _ => 0) (fun _ => 0) (fun _ => 0) (fun _ => 0) (fun _ => 0) (fun _ => 0) (fun _ => 0) (fun _ => 0) (fun _ => 0) (fun _ => 0) 0 0 := by
  have hk : ∀ n, 0 < n → upd (fun _ => 0) 0 2 n = (0 : Int32) := fun n hn => ux_un (by omega)
  have hk0 : upd (fun _ => (0 : Int32)) 0 2 0 = 2 := ux_us
  refine ⟨⟨⟨hk0, fun n _ => ?_⟩, fun _ _ => Or.inl rfl, ⟨ux_us, fun n n0 _ h => ?_⟩, fun i j n _ _ n0 _ e => ?_, fun n _ => ⟨fun h => ?_, fun h => ?_⟩⟩, fun _ _ => Or.inl rfl, fun j o _ ho e => ?_, fun _ _ _ _ _ => rfl, fun p _ => ⟨Or.inl rfl, fun h => absurd rfl h, fun h => absurd (show (0 : Int32) = 1 ∨ (0 : Int32) = 2 from h) (by decide)⟩, ⟨by omega, fun i h => absurd h (by omega), fun i j _ h => absurd h (by omega)⟩, fun k _ => ⟨0, by omega, rfl⟩, fun n n0 _ h => ?_, Nat.le_refl 0⟩
  · by_cases e : n = 0
    · rw [e]; exact Or.inr (Or.inr hk0)
    · exact Or.inl (hk n (by omega))
  · rw [hk n n0] at h; exact absurd h ux_n02
  · exact absurd e.symm (ux_nz n0 (by omega))
  · have e0 : ux_cn (fun _ => 0) n = 0 := ux_ct_z 15 (fun _ _ => rfl)
    rw [e0]
    exact ⟨rfl, by omega⟩
  · by_cases e : n = 0
    · rw [e, hk0] at h; exact absurd h ux_n21
    · rw [hk n (by omega)] at h; exact absurd h ux_n01
  · exact absurd e.symm (ux_nz (by omega) (by omega))
  · rw [hk n n0] at h; exact absurd h ux_n01
theorem i_vc0 : wpX_init (fun u => wpY_init (fun v => i_Rel 0 u v)) := by
  unfold wpX_init
  refine nm_e (nm_e ⟨151, ?_⟩)
  have eL : ux_LN (upd (fun _ => 0) 0 2) (fun _ => 0) = fun _ => 0 := by
    funext j
    unfold ux_LN
    split <;> rfl
  have eD : ux_ED (fun _ => 0) = fun _ => 0 := by
    funext j
    exact ux_cv0
  have hA : ux_A 0 (nI 0, nI 0, 0, upd (fun _ => 0) 0 2, (fun _ => 0), upd (fun _ => 0) 0 0, (fun _ => 0), (fun _ => 0), (fun _ => 0), (fun _ => 0), (fun _ => 0), (fun _ => 0), (fun _ => 0), (fun _ => 0), (fun _ => 0), (fun _ => 0), (fun _ => 0), (fun _ => 0), (fun _ => 0), (fun _ => 0), (fun _ => 0), (fun _ => 0), (fun _ => 0)) (nI 0, 0, nI 0, 0, upd (fun _ => 0) 0 2, ux_LN (upd (fun _ => 0) 0 2) (fun _ => 0), (fun _ => 0), ux_EN (fun _ => 0), upd (fun _ => 0) 0 0, (fun _ => 0), (fun _ => 0), (fun _ => 0), (fun _ => 0), (fun _ => 0), (fun _ => 0), ux_ED (fun _ => 0), (fun _ => 0), (fun _ => 0), (fun _ => 0), (fun _ => 0), (fun _ => 0), (fun _ => 0), (fun _ => 0), (fun _ => 0)) := ux_Ai ux_J0
  rw [eL, eD] at hA
  have e0 : (fun _ => (0 : Int32)) = fun j => if j < 0 then (-1 : Int32) else 0 := by
    funext j
    exact (if_neg (Nat.not_lt_zero j)).symm
  have en : upd (fun _ => (0 : Int32)) 0 0 = fun _ => 0 := ux_ue rfl
  have hA2 : ∀ f : Nat → Int32, f = (fun _ => 0) → ux_A 0 (nI 0, nI 0, 0, upd (fun _ => 0) 0 2, (fun _ => 0), upd (fun _ => 0) 0 0, (fun _ => 0), (fun _ => 0), (fun _ => 0), (fun _ => 0), (fun _ => 0), (fun _ => 0), (fun _ => 0), (fun _ => 0), (fun _ => 0), (fun _ => 0), (fun _ => 0), (fun _ => 0), (fun _ => 0), (fun _ => 0), (fun _ => 0), (fun _ => 0), (fun _ => 0)) (nI 0, 0, nI 0, 0, upd (fun _ => 0) 0 2, (fun _ => 0), (fun _ => 0), ux_EN (fun _ => 0), f, (fun _ => 0), (fun _ => 0), (fun _ => 0), (fun _ => 0), (fun _ => 0), (fun _ => 0), (fun _ => 0), (fun _ => 0), (fun _ => 0), (fun _ => 0), (fun _ => 0), (fun _ => 0), (fun _ => 0), (fun _ => 0), (fun _ => 0)) := by
    intro f hf
    rw [hf, en]
    rw [en] at hA
    exact hA
  have key := ys_in (kd := fun _ => 0) (le := fun _ => 0) (wo := fun _ => 0) (np := fun _ => 0) (st := fun _ => 0) (qp := fun _ => 0) (sp := fun _ => 0) (pn := fun _ => 0) (pg := fun _ => 0) (rg := fun _ => 0) (ee := fun _ => 0) (pc := fun _ => 0) (fi := fun _ => 0) (ow := fun _ => 0) (po := fun _ => 0) (pl := fun _ => 0) (pw := fun _ => 0) (qu := fun _ => 0) (ou := fun _ => 0) (ql := 0) (ex := 0) (pr := 0) (go := 0) (post := fun v => i_Rel 0 (0, 0, 0, upd (fun _ => 0) 0 2, (fun _ => 0), upd (fun _ => 0) 0 0, (fun _ => 0), (fun _ => 0), (fun _ => 0), (fun _ => 0), (fun _ => 0), (fun _ => 0), (fun _ => 0), (fun _ => 0), (fun _ => 0), (fun _ => 0), (fun _ => 0), (fun _ => 0), (fun _ => 0), (fun _ => 0), (fun _ => 0), (fun _ => 0), (fun _ => 0)) v) (hA2 _ rfl) 150 0 (by omega)
  rw [← e0] at key
  exact key
end UX29C
