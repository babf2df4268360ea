section UX2
variable {kd ns np en ds fi ow po st pp qp pc pn : Nat → Int32} {n d m : Nat} {t : Int32}
theorem ux_nx {f : Nat → Int32} {i j : Nat} {x : Int32} (h : f i = x) (hk : f j ≠ x) : i ≠ j := fun e => hk (e ▸ h)
theorem ux_nd (hd2 : kd d = 2) (hk : kd n ≠ 2) : d ≠ n := fun e => hk (e ▸ hd2)
/-! a new node n, of the sort t, entered into d as m -/
theorem ux_E_new (hE : ux_E kd en) (h0 : 0 < n) (hn : n < 10) (hk : kd n = 0) (hd : d < 10) (hd2 : kd d = 2) (hm : m < 15) (ht : t = 1 ∨ t = 2) : ux_E (upd kd n t) (upd en (d * 15 + m) (nI n)) := by
  have hdn : d ≠ n := ux_nd hd2 (by rw [hk]; exact ux_n02)
  intro j hj
  by_cases e : j = d * 15 + m
  · refine Or.inr ⟨n, h0, hn, by rw [e, ux_us], ?_, ?_⟩
    · rw [ux_us]; rcases ht with h | h
      · rw [h]; exact ux_n10
      · rw [h]; exact ux_n20
    · rw [e, show (d * 15 + m) / 15 = d by omega, ux_un hdn]; exact hd2
  · rw [ux_un e]
    rcases hE j hj with h | ⟨a, a0, a1, a2, a3, a4⟩
    · exact Or.inl h
    · refine Or.inr ⟨a, a0, a1, a2, ?_, ?_⟩
      · rw [ux_un (Ne.symm (ux_nx hk a3))]; exact a3
      · rw [ux_un (ux_nd a4 (by rw [hk]; exact ux_n02))]; exact a4
theorem ux_U_new (hE : ux_E kd en) (hU : ux_U kd en) (h0 : 0 < n) (hn : n < 10) (hk : kd n = 0) : ux_U (upd kd n t) (upd en (d * 15 + m) (nI n)) := by
  intro i j a hi hj a0 a1 ei ej ek
  by_cases e1 : i = d * 15 + m
  · by_cases e2 : j = d * 15 + m
    · rw [e1, e2]
    · rw [e1, ux_us] at ei
      rw [ux_un e2, ← ei] at ej
      exact absurd ej (ux_noE hE h0 hn hk j hj)
  · by_cases e2 : j = d * 15 + m
    · rw [e2, ux_us] at ej
      rw [ux_un e1, ← ej] at ei
      exact absurd ei (ux_noE hE h0 hn hk i hi)
    · rw [ux_un e1] at ei
      rw [ux_un e2] at ej
      by_cases e3 : a = n
      · rw [e3] at ei; exact absurd ei (ux_noE hE h0 hn hk i hi)
      · rw [ux_un e3] at ek
        exact hU i j a hi hj a0 a1 ei ej ek
theorem ux_P_new (hP : ux_P kd np en) (h0 : 0 < n) (hk : kd n = 0) (hd : d < 10) (hd2 : kd d = 2) (hm : m < 15) (he : en (d * 15 + m) = 0) : ux_P (upd kd n t) (upd np n (nI d)) (upd en (d * 15 + m) (nI n)) := by
  have hdn : d ≠ n := ux_nd hd2 (by rw [hk]; exact ux_n02)
  refine ⟨by rw [ux_un (by omega)]; exact hP.1, ?_⟩
  intro a a0 a1 ak
  by_cases e : a = n
  · exact ⟨d, hd, by rw [e, ux_us], by rw [ux_un hdn]; exact hd2, m, hm, by rw [e, ux_us]⟩
  · rw [ux_un e] at ak
    obtain ⟨c, c1, c2, c3, j, j1, j2⟩ := hP.2 a a0 a1 ak
    refine ⟨c, c1, by rw [ux_un e]; exact c2, by rw [ux_un (ux_nd c3 (by rw [hk]; exact ux_n02))]; exact c3, j, j1, ?_⟩
    rw [ux_un ?_]
    · exact j2
    · intro e2
      rw [e2, he] at j2
      exact ux_nz a0 (by omega) j2.symm
theorem ux_S_new (hE : ux_E kd en) (hS : ux_S kd ns en) (h0 : 0 < n) (hn : n < 10) (hk : kd n = 0) (hd : d < 10) (hd2 : kd d = 2) (hm : m < 15) (he : en (d * 15 + m) = 0) (hc : ux_cn en d < 6) : ux_S (upd kd n t) (upd (upd ns n 0) d (upd ns n 0 d + 1)) (upd en (d * 15 + m) (nI n)) := by
  have hdn : d ≠ n := ux_nd hd2 (by rw [hk]; exact ux_n02)
  have hA : ux_cn (upd en (d * 15 + m) (nI n)) d = ux_cn en d + 1 := ux_cn_add hm he (ux_nz h0 (by omega))
  have hB : ∀ a, a ≠ d → ux_cn (upd en (d * 15 + m) (nI n)) a = ux_cn en a := fun a ha => ux_cn_ne (by omega)
  intro a ha
  by_cases e : a = n
  · rw [e]
    rw [ux_un (f := upd ns n 0) (Ne.symm hdn), ux_us (f := ns), hB n (Ne.symm hdn)]
    have hz : ux_cn en n = 0 := ux_ct_z 15 (ux_dz hE hn (by rw [hk]; exact ux_n02))
    exact ⟨fun _ => ⟨by rw [hz]; rfl, by omega⟩, fun _ => ⟨0, by omega, rfl⟩⟩
  · rw [ux_un (f := kd) e]
    by_cases e2 : a = d
    · subst e2
      rw [ux_us, ux_un e, hA]
      refine ⟨fun _ => ⟨?_, by omega⟩, fun h => absurd (hd2.symm.trans h) ux_n21⟩
      rw [((hS a ha).1 hd2).1, nI_1]
    · rw [ux_un e2, ux_un e, hB a e2]
      exact hS a ha
theorem ux_K_new (hK : ux_K kd) (h0 : 0 < n) (ht : t = 0 ∨ t = 1 ∨ t = 2) : ux_K (upd kd n t) := by
  refine ⟨by rw [ux_un (by omega)]; exact hK.1, fun a ha => ?_⟩
  by_cases e : a = n
  · rw [e, ux_us]; exact ht
  · rw [ux_un e]; exact hK.2 a ha
theorem ux_FS_new (hF : ux_FS kd ns np en) (h0 : 0 < n) (hn : n < 10) (hk : kd n = 0) (hd : d < 10) (hd2 : kd d = 2) (hm : m < 15) (he : en (d * 15 + m) = 0) (hc : ux_cn en d < 6) (ht : t = 1 ∨ t = 2) : ux_FS (upd kd n t) (upd (upd ns n 0) d (upd ns n 0 d + 1)) (upd np n (nI d)) (upd en (d * 15 + m) (nI n)) := by
  obtain ⟨hK, hE, hP, hU, hS⟩ := hF
  exact ⟨ux_K_new hK h0 (Or.inr ht), ux_E_new hE h0 hn hk hd hd2 hm ht, ux_P_new hP h0 hk hd hd2 hm he, ux_U_new hE hU h0 hn hk, ux_S_new hE hS h0 hn hk hd hd2 hm he hc⟩
theorem ux_O_kd {kd' : Nat → Int32} (hO : ux_O kd ds fi ow po) (h : ∀ j o a, j < 20 → o < 8 → ds j = nI (1 + o) → fi o = nI a → 0 < a → a < 10 → kd a = 1 → kd' a = 1) : ux_O kd' ds fi ow po := by
  intro j o hj ho e
  obtain ⟨⟨a, a0, a1, a2, a3⟩, h2, h3⟩ := hO j o hj ho e
  exact ⟨⟨a, a0, a1, a2, h j o a hj ho e a2 a0 a1 a3⟩, h2, h3⟩
theorem ux_O_new (hO : ux_O kd ds fi ow po) (hk : kd n ≠ 1) : ux_O (upd kd n t) ds fi ow po :=
  ux_O_kd hO (fun _ _ a _ _ _ _ _ _ h => by rw [ux_un (ux_nx h hk)]; exact h)
theorem ux_R_kd {kd' : Nat → Int32} (hR : ux_R kd st pp qp pc pn) (h : ∀ p a, p < 5 → (st p = 1 ∨ st p = 2) → pc p = nI a → a < 10 → kd a = 2 → kd' a = 2) : ux_R kd' st pp qp pc pn := by
  intro p hp
  obtain ⟨h1, h2, h3⟩ := hR p hp
  refine ⟨h1, h2, fun hs => ?_⟩
  obtain ⟨⟨a, a1, a2, a3⟩, h5⟩ := h3 hs
  exact ⟨⟨a, a1, a2, h p a hp hs a2 a1 a3⟩, h5⟩
theorem ux_R_new (hR : ux_R kd st pp qp pc pn) (hk : kd n ≠ 2) : ux_R (upd kd n t) st pp qp pc pn :=
  ux_R_kd hR (fun _ a _ _ _ _ h => by rw [ux_un (ux_nx h hk)]; exact h)
theorem ux_L_en (hL : ux_L kd en ds fi) (hd : d < 10) (hm : m < 15) (he : en (d * 15 + m) = 0) : ux_L kd (upd en (d * 15 + m) (nI n)) ds fi := by
  intro a a0 ha ak
  rcases hL a a0 ha ak with ⟨j, j1, j2⟩ | h
  · by_cases ej : j = d * 15 + m
    · rw [ej, he] at j2
      exact absurd j2.symm (ux_nz a0 (by omega))
    · exact Or.inl ⟨j, j1, by rw [ux_un ej]; exact j2⟩
  · exact Or.inr h
theorem ux_L_new (hL : ux_L kd en ds fi) (hd : d < 10) (hm : m < 15) (he : en (d * 15 + m) = 0) : ux_L (upd kd n t) (upd en (d * 15 + m) (nI n)) ds fi := by
  intro a a0 ha ak
  by_cases e : a = n
  · exact Or.inl ⟨d * 15 + m, by omega, by rw [e, ux_us]⟩
  · rw [ux_un e] at ak
    exact ux_L_en hL hd hm he a a0 ha ak
/-! the file n entered into d as m, too -/
theorem ux_FS_link (hF : ux_FS kd ns np en) (h0 : 0 < n) (hn : n < 10) (hk : kd n = 1) (hd : d < 10) (hd2 : kd d = 2) (hm : m < 15) (he : en (d * 15 + m) = 0) (hc : ux_cn en d < 6) : ux_FS kd (upd ns d (ns d + 1)) np (upd en (d * 15 + m) (nI n)) := by
  obtain ⟨hK, hE, hP, hU, hS⟩ := hF
  have hA : ux_cn (upd en (d * 15 + m) (nI n)) d = ux_cn en d + 1 := ux_cn_add hm he (ux_nz h0 (by omega))
  have hB : ∀ a, a ≠ d → ux_cn (upd en (d * 15 + m) (nI n)) a = ux_cn en a := fun a ha => ux_cn_ne (by omega)
  refine ⟨hK, ?_, ⟨hP.1, ?_⟩, ?_, ?_⟩
  · intro j hj
    by_cases e : j = d * 15 + m
    · exact Or.inr ⟨n, h0, hn, by rw [e, ux_us], by rw [hk]; exact ux_n10, by rw [e, show (d * 15 + m) / 15 = d by omega]; exact hd2⟩
    · rw [ux_un e]; exact hE j hj
  · intro a a0 a1 ak
    obtain ⟨c, c1, c2, c3, j, j1, j2⟩ := hP.2 a a0 a1 ak
    refine ⟨c, c1, c2, c3, j, j1, ?_⟩
    rw [ux_un ?_]
    · exact j2
    · intro e2
      rw [e2, he] at j2
      exact ux_nz a0 (by omega) j2.symm
  · have hx : ∀ i a, 0 < a → a < 10 → upd en (d * 15 + m) (nI n) i = nI a → kd a = 2 → en i = nI a := by
      intro i a a0 a1 e ak
      by_cases e1 : i = d * 15 + m
      · rw [e1, ux_us] at e
        rw [← ux_inj e (by omega) (by omega), hk] at ak
        exact absurd ak ux_n12
      · rw [ux_un e1] at e; exact e
    intro i j a hi hj a0 a1 ei ej ek
    exact hU i j a hi hj a0 a1 (hx i a a0 a1 ei ek) (hx j a a0 a1 ej ek) ek
  · intro a ha
    by_cases e2 : a = d
    · subst e2
      rw [ux_us, hA]
      refine ⟨fun _ => ⟨?_, by omega⟩, fun h => absurd (hd2.symm.trans h) ux_n21⟩
      rw [((hS a ha).1 hd2).1, nI_1]
    · rw [ux_un e2, hB a e2]
      exact hS a ha
/-! the entry m of d, which names n, goes -/
theorem ux_ent (hE : ux_E kd en) (hd : d < 10) (hm : m < 15) (he : en (d * 15 + m) = nI n) (h0 : 0 < n) (hn : n < 10) : kd d = 2 ∧ kd n ≠ 0 := by
  rcases hE (d * 15 + m) (by omega) with h | ⟨a, a0, a1, a2, a3, a4⟩
  · rw [he] at h; exact absurd h (ux_nz h0 (by omega))
  · rw [show (d * 15 + m) / 15 = d by omega] at a4
    rw [he] at a2
    rw [ux_inj a2 (by omega) (by omega)]
    exact ⟨a4, a3⟩
theorem ux_S_rm {z : Int32} (hS : ux_S kd ns en) (hd2 : kd d = 2) (hm : m < 15) (he : en (d * 15 + m) ≠ 0) (hz : nI (ux_cn en d) = z + 1) : ux_S kd (upd ns d z) (upd en (d * 15 + m) 0) := by
  have hA := ux_cn_sub (en := en) (d := d) hm he
  have hB : ∀ a, a ≠ d → ux_cn (upd en (d * 15 + m) 0) a = ux_cn en a := fun a ha => ux_cn_ne (by omega)
  intro a ha
  by_cases e2 : a = d
  · subst e2
    rw [ux_us]
    refine ⟨fun _ => ⟨?_, ?_⟩, fun h => absurd (hd2.symm.trans h) ux_n21⟩
    · rw [← hA, ← nI_1] at hz
      exact ((Int32.add_left_inj 1).mp hz).symm
    · have := ((hS a ha).1 hd2).2
      omega
  · rw [ux_un e2, hB a e2]
    exact hS a ha
theorem ux_FS_rm {z : Int32} (hF : ux_FS kd ns np en) (h0 : 0 < n) (hn : n < 10) (hk : kd n ≠ 2) (hd : d < 10) (hm : m < 15) (he : en (d * 15 + m) = nI n) (hz : nI (ux_cn en d) = z + 1) : ux_FS kd (upd ns d z) np (upd en (d * 15 + m) 0) := by
  obtain ⟨hK, hE, hP, hU, hS⟩ := hF
  have hd2 := (ux_ent hE hd hm he h0 hn).1
  refine ⟨hK, ?_, ⟨hP.1, ?_⟩, ?_, ux_S_rm hS hd2 hm (by rw [he]; exact ux_nz h0 (by omega)) hz⟩
  · intro j hj
    by_cases e : j = d * 15 + m
    · rw [e, ux_us]; exact Or.inl rfl
    · rw [ux_un e]; exact hE j hj
  · intro a a0 a1 ak
    obtain ⟨c, c1, c2, c3, j, j1, j2⟩ := hP.2 a a0 a1 ak
    refine ⟨c, c1, c2, c3, j, j1, ?_⟩
    rw [ux_un ?_]
    · exact j2
    · intro e2
      rw [e2, he] at j2
      exact hk (ux_inj j2 (by omega) (by omega) ▸ ak)
  · have hx : ∀ i a, 0 < a → a < 10 → upd en (d * 15 + m) 0 i = nI a → en i = nI a := by
      intro i a a0 a1 e
      by_cases e1 : i = d * 15 + m
      · rw [e1, ux_us] at e
        exact absurd e.symm (ux_nz a0 (by omega))
      · rw [ux_un e1] at e; exact e
    intro i j a hi hj a0 a1 ei ej ek
    exact hU i j a hi hj a0 a1 (hx i a a0 a1 ei) (hx j a a0 a1 ej) ek
theorem ux_FS_rmd {z : Int32} (hF : ux_FS kd ns np en) (h0 : 0 < n) (hn : n < 10) (hk : kd n = 2) (hd : d < 10) (hm : m < 15) (he : en (d * 15 + m) = nI n) (hz : nI (ux_cn en d) = z + 1) (hc : ux_cn en n = 0) : ux_FS (upd kd n 0) (upd ns d z) np (upd en (d * 15 + m) 0) := by
  obtain ⟨hK, hE, hP, hU, hS⟩ := hF
  have hd2 := (ux_ent hE hd hm he h0 hn).1
  have hall : ∀ j, j < 15 → en (n * 15 + j) = 0 := ux_ct_0 15 hc
  have hen : ∀ j, en j ≠ 0 → j / 15 ≠ n := by
    intro j hj e
    have := hall (j % 15) (by omega)
    rw [show n * 15 + j % 15 = j by omega] at this
    exact hj this
  have hdn : d ≠ n := by
    have := hen (d * 15 + m) (by rw [he]; exact ux_nz h0 (by omega))
    omega
  refine ⟨ux_K_new hK h0 (Or.inl rfl), ?_, ⟨hP.1, ?_⟩, ?_, ?_⟩
  · intro j hj
    by_cases e : j = d * 15 + m
    · rw [e, ux_us]; exact Or.inl rfl
    · rw [ux_un e]
      rcases hE j hj with h | ⟨a, a0, a1, a2, a3, a4⟩
      · exact Or.inl h
      · refine Or.inr ⟨a, a0, a1, a2, ?_, ?_⟩
        · rw [ux_un ?_]
          · exact a3
          · intro ea
            rw [ea] at a2
            exact e (hU j (d * 15 + m) n hj (by omega) h0 hn a2 he hk)
        · rw [ux_un (hen j (by rw [a2]; exact ux_nz a0 (by omega)))]; exact a4
  · intro a a0 a1 ak
    have ean : a ≠ n := by
      intro e; rw [e, ux_us] at ak; exact ux_n02 ak
    rw [ux_un ean] at ak
    obtain ⟨c, c1, c2, c3, j, j1, j2⟩ := hP.2 a a0 a1 ak
    refine ⟨c, c1, c2, ?_, j, j1, ?_⟩
    · have := hen (c * 15 + j) (by rw [j2]; exact ux_nz a0 (by omega))
      rw [ux_un (by omega)]; exact c3
    · rw [ux_un ?_]
      · exact j2
      · intro e2
        rw [e2, he] at j2
        exact ean (ux_inj j2 (by omega) (by omega)).symm
  · have hx : ∀ i a, 0 < a → a < 10 → upd en (d * 15 + m) 0 i = nI a → en i = nI a := by
      intro i a a0 a1 e
      by_cases e1 : i = d * 15 + m
      · rw [e1, ux_us] at e
        exact absurd e.symm (ux_nz a0 (by omega))
      · rw [ux_un e1] at e; exact e
    intro i j a hi hj a0 a1 ei ej ek
    have ean : a ≠ n := by
      intro e; rw [e, ux_us] at ek; exact ux_n02 ek
    rw [ux_un ean] at ek
    exact hU i j a hi hj a0 a1 (hx i a a0 a1 ei) (hx j a a0 a1 ej) ek
  · have h1 := ux_S_rm hS hd2 hm (by rw [he]; exact ux_nz h0 (by omega)) hz
    intro a ha
    by_cases e : a = n
    · rw [e, ux_us]
      exact ⟨fun h => absurd h ux_n02, fun h => absurd h ux_n01⟩
    · rw [ux_un e]; exact h1 a ha
/-! a file's length -/
theorem ux_FS_ns {q : Nat} (hF : ux_FS kd ns np en) (hk : kd n = 1) (hq : q ≤ 20) : ux_FS kd (upd ns n (nI q)) np en := by
  obtain ⟨hK, hE, hP, hU, hS⟩ := hF
  refine ⟨hK, hE, hP, hU, fun a ha => ?_⟩
  by_cases e : a = n
  · rw [e, ux_us]
    exact ⟨fun h => absurd (hk.symm.trans h) ux_n12, fun _ => ⟨q, hq, rfl⟩⟩
  · rw [ux_un e]; exact hS a ha
/-! lost files become free -/
def ux_lo (kd en ds fi : Nat → Int32) (n : Nat) : Prop := n < 10 ∧ kd n = 1 ∧ ¬ ux_en en n ∧ ¬ ux_op ds fi n
noncomputable def ux_ck (kd en ds fi : Nat → Int32) : Nat → Int32 := fun n => @ite Int32 (ux_lo kd en ds fi n) (Classical.propDecidable _) 0 (kd n)
theorem ux_ck_t (h : ux_lo kd en ds fi n) : ux_ck kd en ds fi n = 0 := if_pos h
theorem ux_ck_f (h : ¬ ux_lo kd en ds fi n) : ux_ck kd en ds fi n = kd n := if_neg h
theorem ux_ck_n1 (h : kd n ≠ 1) : ux_ck kd en ds fi n = kd n := ux_ck_f (fun z => h z.2.1)
theorem ux_ck_en (h : ux_en en n) : ux_ck kd en ds fi n = kd n := ux_ck_f (fun z => z.2.2.1 h)
theorem ux_ck_op (h : ux_op ds fi n) : ux_ck kd en ds fi n = kd n := ux_ck_f (fun z => z.2.2.2 h)
theorem ux_ck_of {x : Int32} (h : ux_ck kd en ds fi n = x) (hx : x ≠ 0) : kd n = x ∧ ¬ ux_lo kd en ds fi n := by
  by_cases z : ux_lo kd en ds fi n
  · rw [ux_ck_t z] at h; exact absurd h.symm hx
  · rw [ux_ck_f z] at h; exact ⟨h, z⟩
theorem ux_ck_2 (h : kd n = 2) : ux_ck kd en ds fi n = 2 := by rw [ux_ck_n1 (by rw [h]; exact ux_n21)]; exact h
theorem ux_ck_id (hL : ux_L kd en ds fi) (h0 : kd 0 = 2) : ux_ck kd en ds fi = kd := by
  funext a
  refine ux_ck_f (fun z => ?_)
  obtain ⟨z1, z2, z3, z4⟩ := z
  by_cases e : a = 0
  · rw [e, h0] at z2; exact ux_n21 z2
  · rcases hL a (by omega) z1 z2 with h | h
    · exact z3 h
    · exact z4 h
theorem ux_FS_ck (hF : ux_FS kd ns np en) : ux_FS (ux_ck kd en ds fi) ns np en := by
  obtain ⟨hK, hE, hP, hU, hS⟩ := hF
  refine ⟨⟨ux_ck_2 hK.1, ?_⟩, ?_, ⟨hP.1, ?_⟩, ?_, ?_⟩
  · intro a ha
    by_cases z : ux_lo kd en ds fi a
    · exact Or.inl (ux_ck_t z)
    · rw [ux_ck_f z]; exact hK.2 a ha
  · intro j hj
    rcases hE j hj with h | ⟨a, a0, a1, a2, a3, a4⟩
    · exact Or.inl h
    · exact Or.inr ⟨a, a0, a1, a2, by rw [ux_ck_en ⟨j, hj, a2⟩]; exact a3, ux_ck_2 a4⟩
  · intro a a0 a1 ak
    obtain ⟨c, c1, c2, c3, c4⟩ := hP.2 a a0 a1 (ux_ck_of ak ux_n20).1
    exact ⟨c, c1, c2, ux_ck_2 c3, c4⟩
  · intro i j a hi hj a0 a1 ei ej ek
    exact hU i j a hi hj a0 a1 ei ej (ux_ck_of ek ux_n20).1
  · intro a ha
    exact ⟨fun h => (hS a ha).1 (ux_ck_of h ux_n20).1, fun h => (hS a ha).2 (ux_ck_of h ux_n10).1⟩
theorem ux_O_ck (hO : ux_O kd ds fi ow po) : ux_O (ux_ck kd en ds fi) ds fi ow po :=
  ux_O_kd hO (fun j o a hj ho e e2 _ _ h => by rw [ux_ck_op ⟨j, o, hj, ho, e, e2⟩]; exact h)
theorem ux_R_ck (hR : ux_R kd st pp qp pc pn) : ux_R (ux_ck kd en ds fi) st pp qp pc pn :=
  ux_R_kd hR (fun _ _ _ _ _ _ h => ux_ck_2 h)
theorem ux_L_ck : ux_L (ux_ck kd en ds fi) en ds fi := by
  intro a a0 a1 ak
  obtain ⟨h1, h2⟩ := ux_ck_of ak ux_n10
  by_cases z : ux_en en a
  · exact Or.inl z
  · by_cases z2 : ux_op ds fi a
    · exact Or.inr z2
    · exact absurd ⟨a1, h1, z, z2⟩ h2
end UX2
