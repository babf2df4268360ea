section UX11
/-- the first i nodes are done -/
def ux_ci (kd K : Nat → Int32) (i : Nat) : Nat → Int32 := fun n => if n < i then K n else kd n
theorem ux_ci_0 {kd K : Nat → Int32} : ux_ci kd K 0 = kd := by
  funext n
  exact if_neg (Nat.not_lt_zero n)
theorem ux_ci_at {kd K : Nat → Int32} {i : Nat} : ux_ci kd K i i = kd i := if_neg (Nat.lt_irrefl i)
theorem ux_ci_s {kd K : Nat → Int32} {i : Nat} : ux_ci kd K (i + 1) = upd (ux_ci kd K i) i (K i) := by
  funext n
  by_cases e : n = i
  · rw [e, ux_us]; exact if_pos (by omega)
  · rw [ux_un e]
    unfold ux_ci
    by_cases h : n < i
    · rw [if_pos h, if_pos (by omega)]
    · rw [if_neg h, if_neg (by omega)]
theorem ux_ci_k {kd K : Nat → Int32} {i : Nat} (h : K i = kd i) : ux_ci kd K (i + 1) = ux_ci kd K i := by
  rw [ux_ci_s]
  exact ux_ue (by rw [ux_ci_at, h])
theorem ux_ci_10 {kd K : Nat → Int32} (h : ∀ n, 10 ≤ n → K n = kd n) : ux_ci kd K 10 = K := by
  funext n
  unfold ux_ci
  by_cases e : n < 10
  · rw [if_pos e]
  · rw [if_neg e, h n (by omega)]
theorem ux_ck_10 {kd en ds fi : Nat → Int32} : ∀ n, 10 ≤ n → ux_ck kd en ds fi n = kd n := fun n h => ux_ck_f (fun z => by have := z.1; omega)
theorem ux_ci_2 {kd en ds fi : Nat → Int32} {i n : Nat} (h : kd n = 2) : ux_ci kd (ux_ck kd en ds fi) i n = 2 := by
  unfold ux_ci
  by_cases e : n < i
  · rw [if_pos e]; exact ux_ck_2 h
  · rw [if_neg e]; exact h
theorem ux_op_oq {ds fi : Nat → Int32} {n : Nat} : ux_op ds fi n ↔ ∃ j, j < 20 ∧ ux_oq ds fi (nI n) j :=
  ⟨fun ⟨j, o, h1, h2, h3, h4⟩ => ⟨j, h1, o, h2, h3, h4⟩, fun ⟨j, h1, o, h2, h3, h4⟩ => ⟨j, o, h1, h2, h3, h4⟩⟩
theorem ux_div {a d : Nat} (ha : a < 2 ^ 31) (h0 : 0 < d) (hd : d < 2 ^ 31) : nI a / nI d = nI (a / d) := by
  apply Int32.toInt_inj.mp
  rw [lg_idiv_nonneg (by rw [nI_toInt ha]; omega) (by rw [nI_toInt hd]; omega), nI_toInt ha, nI_toInt hd, nI_toInt (Nat.lt_of_le_of_lt (Nat.div_le_self a d) ha)]
  first | rfl | exact (Int.natCast_ediv _ _).symm
end UX11
section UX11X
variable {ql pr : Int32} {ex : Int64} {kd ns np wo en st pp sp pc pg pn rg ds fi ow po pw pl qu ou : Nat → Int32}
variable {post : SX → Prop} {i r : Nat}
theorem xs_fl (hD : ux_D ds) (h : post (ql, pr, ex, ux_ck kd en ds fi, ns, np, wo, en, st, pp, sp, pc, pg, pn, rg, ds, fi, ow, po, pw, pl, qu, ou)) : ∀ r i, i + r = 10 → wX_freeLostFiles_2 post ql pr ex (r + 1) (nI i) (ux_ci kd (ux_ck kd en ds fi) i) ns np wo en st pp sp pc pg pn rg ds fi ow po pw pl qu ou := by
  intro r
  induction r with
  | zero =>
    intro i hi
    have ei : i = 10 := by omega
    subst ei
    rw [ux_ci_10 ux_ck_10]
    exact br_t (by decide) h
  | succ r ih =>
    intro i hi
    have H := ih (i + 1) (by omega)
    refine br_f (nI_ge (b := 10) (by omega) (by decide)) ⟨vp_in_nI (by omega) (by decide), ?_⟩
    rw [ux_c (by omega), ux_ci_at]
    by_cases h1 : kd i = 1
    · refine br_t h1 ?_
      by_cases h2 : ux_en en i
      · rw [ux_ci_k (ux_ck_en h2)] at H
        exact xa_ie1 h2 (br_f (by decide) (nm_r (nI_1 i) H))
      · refine xa_ie0 h2 (br_t rfl ?_)
        by_cases h3 : ux_op ds fi i
        · rw [ux_ci_k (ux_ck_op h3)] at H
          exact xa_iO1 hD (ux_op_oq.mp h3) (br_f (by decide) (nm_r (nI_1 i) H))
        · rw [ux_ci_s, ux_ck_t ⟨by omega, h1, h2, h3⟩] at H
          exact xa_iO0 hD (fun z => h3 (ux_op_oq.mpr z)) (br_t rfl ⟨vp_in_nI (by omega) (by decide), nm_e (nm_r (nI_1 i) H)⟩)
    · rw [ux_ci_k (ux_ck_n1 h1)] at H
      exact br_f h1 (nm_r (nI_1 i) H)
theorem xa_fl (hD : ux_D ds) (h : post (ql, pr, ex, ux_ck kd en ds fi, ns, np, wo, en, st, pp, sp, pc, pg, pn, rg, ds, fi, ow, po, pw, pl, qu, ou)) : wpX_freeLostFiles post (ql, pr, ex, kd, ns, np, wo, en, st, pp, sp, pc, pg, pn, rg, ds, fi, ow, po, pw, pl, qu, ou) := by
  have H := xs_fl hD h 10 0 (by omega)
  rw [ux_ci_0] at H
  exact ⟨11, H⟩
end UX11X
section UX11Y
variable {ql pr go : Int32} {ex : Int64} {kd ns le wo en et np st qp sp pn pg rg ee ds pc fi ow po pl pw qu ou : Nat → Int32}
variable {post : SY → Prop} {i : Nat} {J : Int32 → (Nat → Int32) → (Nat → Int32) → (Nat → Int32) → (Nat → Int32) → (Nat → Int32) → (Nat → Int32) → (Nat → Int32) → (Nat → Int32) → (Nat → Int32) → (Nat → Int32) → (Nat → Int32) → (Nat → Int32) → (Nat → Int32) → (Nat → Int32) → (Nat → Int32) → (Nat → Int32) → (Nat → Int32) → (Nat → Int32) → (Nat → Int32) → (Nat → Int32) → Prop}
theorem ys_c66 (hi : i < 10) : ∀ r j (u : Int32), j + r = 8 → (u = 0 ∨ u = 1) →
    ((u = 0 ∧ ∀ o, j ≤ o → o < 8 → ¬ (fi o = nI i ∧ ux_hd ee (nI (1 + o)))) → J (nI (i + 1)) (upd kd i 0) le wo et np st qp sp pn pg rg ee pc fi ow po pl pw qu ou) →
    (¬ (u = 0 ∧ ∀ o, j ≤ o → o < 8 → ¬ (fi o = nI i ∧ ux_hd ee (nI (1 + o)))) → J (nI (i + 1)) kd le wo et np st qp sp pn pg rg ee pc fi ow po pl pw qu ou) →
    wY_clean_66 post J (nI i) ql ex pr go kd le wo et np st qp sp pn pg rg ee pc fi ow po pl pw qu ou (r + 1) u (nI j) := by
  intro r
  induction r with
  | zero =>
    intro j u hj hu h0 h1
    have ej : j = 8 := by omega
    subst ej
    refine br_t (by decide) ?_
    by_cases hz : u = 0
    · refine br_t hz ⟨vp_in_nI hi (by decide), nm_r (by rw [ux_c (by omega)]) (nm_r (nI_1 i) (h0 ⟨hz, fun o g1 g2 => by omega⟩))⟩
    · exact br_f hz (nm_r (nI_1 i) (h1 (fun z => hz z.1)))
  | succ r ih =>
    intro j u hj hu h0 h1
    refine br_f (nI_ge (b := 8) (by omega) (by decide)) ⟨vp_in_nI (by omega) (by decide), ?_⟩
    rw [ux_c (by omega), ux_l_add]
    have same : ¬ (fi j = nI i ∧ ux_hd ee (nI (1 + j))) → wY_clean_66 post J (nI i) ql ex pr go kd le wo et np st qp sp pn pg rg ee pc fi ow po pl pw qu ou (r + 1) u (nI (j + 1)) := by
      intro hq
      refine ih (j + 1) u (by omega) hu (fun z => h0 ⟨z.1, fun o g1 g2 => ?_⟩) (fun z => h1 (fun y => z ⟨y.1, fun o g1 g2 => y.2 o (by omega) g2⟩))
      by_cases eo : o = j
      · rw [eo]; exact hq
      · exact z.2 o (by omega) g2
    by_cases hf : fi j = nI i
    · refine br_t hf ?_
      by_cases hh : ux_hd ee (nI (1 + j))
      · refine ya_h1 hh (br_f (by decide) (nm_r (nI_1 j) ?_))
        exact ih (j + 1) 1 (by omega) (Or.inr rfl) (fun z => absurd z.1 (by decide)) (fun _ => h1 (fun y => y.2 j (by omega) (by omega) ⟨hf, hh⟩))
      · exact ya_h0 hh (br_t rfl (nm_r (nI_1 j) (same (fun z => hh z.2))))
    · exact br_f hf (nm_r (nI_1 j) (same (fun z => hf z.1)))
theorem ys_c26 (hi : i < 10) : ∀ r j (u : Int32), j + r = 150 → (u = 0 ∨ u = 1) →
    ((u = 0 ∧ ∀ o, j ≤ o → o < 150 → ¬ (et o = nI i ∧ kd (o / 15) = 2)) → ∃ n, wY_clean_66 post J (nI i) ql ex pr go kd le wo et np st qp sp pn pg rg ee pc fi ow po pl pw qu ou n 0 0) →
    (¬ (u = 0 ∧ ∀ o, j ≤ o → o < 150 → ¬ (et o = nI i ∧ kd (o / 15) = 2)) → ∃ n, wY_clean_66 post J (nI i) ql ex pr go kd le wo et np st qp sp pn pg rg ee pc fi ow po pl pw qu ou n 1 0) →
    wY_clean_26 post J (nI i) ql ex pr go kd le wo et np st qp sp pn pg rg ee pc fi ow po pl pw qu ou (r + 1) u (nI j) := by
  intro r
  induction r with
  | zero =>
    intro j u hj hu h0 h1
    have ej : j = 150 := by omega
    subst ej
    refine br_t (by decide) ?_
    rcases hu with hz | hz
    · subst hz
      exact h0 ⟨rfl, fun o g1 g2 => by omega⟩
    · subst hz
      exact h1 (fun z => absurd z.1 (by decide))
  | succ r ih =>
    intro j u hj hu h0 h1
    refine br_f (nI_ge (b := 150) (by omega) (by decide)) ⟨vp_in_nI (by omega) (by decide), ?_⟩
    rw [ux_c (by omega)]
    have same : ¬ (et j = nI i ∧ kd (j / 15) = 2) → wY_clean_26 post J (nI i) ql ex pr go kd le wo et np st qp sp pn pg rg ee pc fi ow po pl pw qu ou (r + 1) u (nI (j + 1)) := by
      intro hq
      refine ih (j + 1) u (by omega) hu (fun z => h0 ⟨z.1, fun o g1 g2 => ?_⟩) (fun z => h1 (fun y => z ⟨y.1, fun o g1 g2 => y.2 o (by omega) g2⟩))
      by_cases eo : o = j
      · rw [eo]; exact hq
      · exact z.2 o (by omega) g2
    by_cases hf : et j = nI i
    · refine br_t hf ⟨by decide, ?_⟩
      have ed : nI j / 15 = nI (j / 15) := ux_div (d := 15) (by omega) (by omega) (by omega)
      rw [ed, ux_c (by omega)]
      refine ⟨vp_in_nI (by omega) (by decide), ?_⟩
      by_cases hk : kd (j / 15) = 2
      · refine br_t hk (nm_r (nI_1 j) ?_)
        exact ih (j + 1) 1 (by omega) (Or.inr rfl) (fun z => absurd z.1 (by decide)) (fun _ => h1 (fun y => y.2 j (by omega) (by omega) ⟨hf, hk⟩))
      · exact br_f hk (nm_r (nI_1 j) (same (fun z => hk z.2)))
    · exact br_f hf (nm_r (nI_1 j) (same (fun z => hf z.1)))
theorem ux_EN_n {en : Nat → Int32} {j i : Nat} (hj : j < 150) (h0 : 0 < i) (hi : i < 10) : ux_EN en j = nI i ↔ en j = nI i := by
  by_cases h : en j = 0
  · rw [ux_EN_0 hj h, h]
    exact ⟨fun z => absurd z.symm (ux_neg1 (by omega)), fun z => absurd z.symm (ux_nz h0 (by omega))⟩
  · rw [ux_EN_1 hj h]
theorem ys_cl (hE : ux_E kd en) (hD : ux_D ds) (h : post (ql, ex, pr, go, ux_ck kd en ds fi, le, wo, ux_EN en, np, st, qp, sp, pn, pg, rg, ux_ED ds, pc, fi, ow, po, pl, pw, qu, ou)) : ∀ r i, 0 < i → i + r = 10 → wY_clean_2 post ql ex pr go (r + 1) (nI i) (ux_ci kd (ux_ck kd en ds fi) i) le wo (ux_EN en) np st qp sp pn pg rg (ux_ED ds) pc fi ow po pl pw qu ou := by
  intro r
  induction r with
  | zero =>
    intro i h0 hi
    have ei : i = 10 := by omega
    subst ei
    rw [ux_ci_10 ux_ck_10]
    exact br_t (by decide) h
  | succ r ih =>
    intro i h0 hi
    have H := ih (i + 1) (by omega) (by omega)
    have hopen : (∀ o, 0 ≤ o → o < 8 → ¬ (fi o = nI i ∧ ux_hd (ux_ED ds) (nI (1 + o)))) ↔ ¬ ux_op ds fi i := by
      constructor
      · intro z ⟨j, o, g1, g2, g3, g4⟩
        exact z o (by omega) g2 ⟨g4, (ux_hd_o hD g2).mpr ⟨j, g1, g3⟩⟩
      · intro z o _ g2 ⟨g3, g4⟩
        obtain ⟨j, g5, g6⟩ := (ux_hd_o hD g2).mp g4
        exact z ⟨j, o, g5, g2, g6, g3⟩
    have hent : (∀ o, 0 ≤ o → o < 150 → ¬ (ux_EN en o = nI i ∧ ux_ci kd (ux_ck kd en ds fi) i (o / 15) = 2)) ↔ ¬ ux_en en i := by
      constructor
      · intro z ⟨j, g1, g2⟩
        refine z j (by omega) g1 ⟨(ux_EN_n g1 h0 (by omega)).mpr g2, ux_ci_2 ?_⟩
        rcases hE j g1 with e | ⟨a, _, _, _, _, e⟩
        · rw [e] at g2; exact absurd g2.symm (ux_nz h0 (by omega))
        · exact e
      · intro z o _ g2 ⟨g3, _⟩
        exact z ⟨o, g2, (ux_EN_n g2 h0 (by omega)).mp g3⟩
    have hkeep : ux_ck kd en ds fi i = kd i → wY_clean_2 post ql ex pr go (r + 1) (nI (i + 1)) (ux_ci kd (ux_ck kd en ds fi) i) le wo (ux_EN en) np st qp sp pn pg rg (ux_ED ds) pc fi ow po pl pw qu ou := by
      intro e
      rw [ux_ci_k e] at H
      exact H
    have h66 : ∀ u : Int32, (u = 0 ∨ u = 1) → (u = 0 → kd i = 1 ∧ ¬ ux_en en i) → (u = 1 → ux_ck kd en ds fi i = kd i) →
        ∃ n, wY_clean_66 post (wY_clean_2 post ql ex pr go (r + 1)) (nI i) ql ex pr go (ux_ci kd (ux_ck kd en ds fi) i) le wo (ux_EN en) np st qp sp pn pg rg (ux_ED ds) pc fi ow po pl pw qu ou n u 0 := by
      intro u hu hu0 hu1
      refine ⟨9, ys_c66 (by omega) 8 0 u (by omega) hu (fun z => ?_) (fun z => ?_)⟩
      · have h1 := hu0 z.1
        have h2 := hopen.mp z.2
        rw [ux_ci_s, ux_ck_t ⟨by omega, h1.1, h1.2, h2⟩] at H
        exact H
      · refine hkeep ?_
        rcases hu with e | e
        · exact ux_ck_f (fun y => z ⟨e, hopen.mpr y.2.2.2⟩)
        · exact hu1 e
    refine br_f (nI_ge (b := 10) (by omega) (by decide)) ⟨vp_in_nI (by omega) (by decide), ?_⟩
    rw [ux_c (by omega), ux_ci_at]
    by_cases h1 : kd i = 1
    · refine br_t h1 ⟨151, ys_c26 (by omega) 150 0 0 (by omega) (Or.inl rfl) (fun z => ?_) (fun z => ?_)⟩
      · exact h66 0 (Or.inl rfl) (fun _ => ⟨h1, hent.mp z.2⟩) (fun e => absurd e (by decide))
      · refine h66 1 (Or.inr rfl) (fun e => absurd e (by decide)) (fun _ => ux_ck_f (fun y => z ⟨rfl, hent.mpr y.2.2.1⟩))
    · refine br_f h1 ⟨151, ys_c26 (by omega) 150 0 1 (by omega) (Or.inr rfl) (fun z => absurd z.1 (by decide)) (fun z => ?_)⟩
      exact h66 1 (Or.inr rfl) (fun e => absurd e (by decide)) (fun _ => ux_ck_n1 h1)
theorem ya_cl (hK : ux_K kd) (hE : ux_E kd en) (hD : ux_D ds) (h : post (ql, ex, pr, go, ux_ck kd en ds fi, le, wo, ux_EN en, np, st, qp, sp, pn, pg, rg, ux_ED ds, pc, fi, ow, po, pl, pw, qu, ou)) : wpY_clean post (ql, ex, pr, go, kd, le, wo, ux_EN en, np, st, qp, sp, pn, pg, rg, ux_ED ds, pc, fi, ow, po, pl, pw, qu, ou) := by
  have H := ys_cl hE hD h 9 1 (by omega) (by omega)
  rw [ux_ci_k (ux_ck_n1 (by rw [hK.1]; exact ux_n21)), ux_ci_0] at H
  exact ⟨10, H⟩
end UX11Y
