section UX3
variable {kd ns np en ds dt fi ow po st pp qp pc pn qu : Nat → Int32} {n d m p c k o : Nat} {x : Int32}
/-! descriptors -/
theorem ux_D_upd (hD : ux_D ds) (hx : ux_V x) : ux_D (upd ds k x) := by
  intro j hj
  by_cases e : j = k
  · rw [e, ux_us]; exact hx
  · rw [ux_un e]; exact hD j hj
theorem ux_O_sub (hO : ux_O kd ds fi ow po) (h : ∀ j o, j < 20 → o < 8 → dt j = nI (1 + o) → ∃ i, i < 20 ∧ ds i = nI (1 + o)) : ux_O kd dt fi ow po := by
  intro j o hj ho e
  obtain ⟨i, hi, e2⟩ := h j o hj ho e
  exact hO i o hi ho e2
theorem ux_L_mono (hL : ux_L kd en ds fi) (h : ∀ j o, j < 20 → o < 8 → ds j = nI (1 + o) → ∃ i, i < 20 ∧ dt i = nI (1 + o)) : ux_L kd en dt fi := by
  intro a a0 a1 ak
  rcases hL a a0 a1 ak with z | ⟨j, o, hj, ho, e1, e2⟩
  · exact Or.inl z
  · obtain ⟨i, hi, e3⟩ := h j o hj ho e1
    exact Or.inr ⟨i, o, hi, ho, e3, e2⟩
theorem ux_o0 : nI (1 + o) ≠ 0 ∨ ¬ o < 8 := by
  by_cases h : o < 8
  · exact Or.inl (ux_nz (by omega) (by omega))
  · exact Or.inr h
theorem ux_grow (h0 : ds k = 0) : ∀ j o, j < 20 → o < 8 → ds j = nI (1 + o) → ∃ i, i < 20 ∧ upd ds k x i = nI (1 + o) := by
  intro j o hj ho e
  refine ⟨j, hj, ?_⟩
  rw [ux_un ?_]
  · exact e
  · intro ek
    rw [ek, h0] at e
    exact ux_nz (by omega) (by omega) e.symm
theorem ux_Z_upd (hZ : ux_Z st ds) (hp : st p = 1 ∨ st p = 2) (hd : d < 4) : ux_Z st (upd ds (p * 4 + d) x) := by
  intro a i ha hi hs
  rw [ux_un ?_]
  · exact hZ a i ha hi hs
  · intro e
    have : a = p := by omega
    subst this
    rcases hs with h | h <;> rcases hp with h2 | h2 <;> rw [h] at h2 <;> exact absurd h2 (by decide)
/-! a new opening -/
theorem ux_O_open {q : Nat} {w : Int32} (hO : ux_O kd ds fi ow po) (ho : o < 8) (hn0 : 0 < n) (hn : n < 10) (hk : kd n = 1) (hw : w = 0 ∨ w = 1) (hq : q ≤ 20) (hh : ∀ j, j < 20 → ds j ≠ nI (1 + o)) : ux_O kd (upd ds k (nI (1 + o))) (upd fi o (nI n)) (upd ow o w) (upd po o (nI q)) := by
  intro j a hj ha e
  by_cases ea : a = o
  · rw [ea, ux_us, ux_us, ux_us]
    exact ⟨⟨n, hn0, hn, rfl, hk⟩, hw, q, hq, rfl⟩
  · rw [ux_un ea, ux_un ea, ux_un ea]
    by_cases ej : j = k
    · rw [ej, ux_us] at e
      have := ux_inj e (by omega) (by omega)
      omega
    · rw [ux_un ej] at e
      exact hO j a hj ha e
theorem ux_L_open (hL : ux_L kd en ds fi) (h0 : ds k = 0) (hh : ∀ j, j < 20 → ds j ≠ nI (1 + o)) : ux_L kd en (upd ds k (nI (1 + o))) (upd fi o (nI n)) := by
  intro a a0 a1 ak
  rcases hL a a0 a1 ak with z | ⟨j, b, hj, hb, e1, e2⟩
  · exact Or.inl z
  · refine Or.inr ⟨j, b, hj, hb, ?_, ?_⟩
    · rw [ux_un ?_]
      · exact e1
      · intro ek
        rw [ek, h0] at e1
        exact ux_nz (by omega) (by omega) e1.symm
    · rw [ux_un ?_]
      · exact e2
      · intro eb
        rw [eb] at e1
        exact hh j hj e1
theorem ux_O_po {q : Nat} (hO : ux_O kd ds fi ow po) (hq : q ≤ 20) : ux_O kd ds fi ow (upd po o (nI q)) := by
  intro j a hj ha e
  obtain ⟨h1, h2, h3⟩ := hO j a hj ha e
  refine ⟨h1, h2, ?_⟩
  by_cases ea : a = o
  · rw [ea, ux_us]; exact ⟨q, hq, rfl⟩
  · rw [ux_un ea]; exact h3
/-! processes -/
theorem ux_n3 : (3 : Int32) ≠ 0 ∧ (3 : Int32) ≠ 1 ∧ (3 : Int32) ≠ 2 := by decide
theorem ux_R_one {y : Int32} (hR : ux_R kd st pp qp pc pn) (hs : x = 1 ∨ x = 2) (hy : y = -1 ∨ ∃ c, c < 5 ∧ c ≠ p ∧ y = nI c) (hd : d < 10) (hd2 : kd d = 2) (hm : m ≤ 20) : ux_R kd (upd st p x) (upd pp p y) (upd qp p y) (upd pc p (nI d)) (upd pn p (nI m)) := by
  intro a ha
  by_cases e : a = p
  · rw [e, ux_us, ux_us, ux_us, ux_us, ux_us]
    refine ⟨?_, fun _ => ⟨rfl, hy⟩, fun _ => ⟨⟨d, hd, rfl, hd2⟩, m, hm, rfl⟩⟩
    rcases hs with h | h
    · exact Or.inr (Or.inl h)
    · exact Or.inr (Or.inr (Or.inl h))
  · rw [ux_un e, ux_un e, ux_un e, ux_un e, ux_un e]
    exact hR a ha
theorem ux_R_pc (hR : ux_R kd st pp qp pc pn) (hd : d < 10) (hd2 : kd d = 2) : ux_R kd st pp qp (upd pc p (nI d)) pn := by
  intro a ha
  obtain ⟨h1, h2, h3⟩ := hR a ha
  refine ⟨h1, h2, fun hs => ⟨?_, (h3 hs).2⟩⟩
  by_cases e : a = p
  · rw [e, ux_us]; exact ⟨d, hd, rfl, hd2⟩
  · rw [ux_un e]; exact (h3 hs).1
theorem ux_R_pn (hR : ux_R kd st pp qp pc pn) (hm : m ≤ 20) : ux_R kd st pp qp pc (upd pn p (nI m)) := by
  intro a ha
  obtain ⟨h1, h2, h3⟩ := hR a ha
  refine ⟨h1, h2, fun hs => ⟨(h3 hs).1, ?_⟩⟩
  by_cases e : a = p
  · rw [e, ux_us]; exact ⟨m, hm, rfl⟩
  · rw [ux_un e]; exact (h3 hs).2
theorem ux_R_fr (hR : ux_R kd st pp qp pc pn) : ux_R kd (upd st p 0) pp qp pc pn := by
  intro a ha
  by_cases e : a = p
  · rw [e, ux_us]
    exact ⟨Or.inl rfl, fun h => absurd rfl h, fun h => absurd h (by decide)⟩
  · rw [ux_un e]; exact hR a ha
theorem ux_R_st (hR : ux_R kd st pp qp pc pn) (hp : st p = 1 ∨ st p = 2) (hs : x = 1 ∨ x = 2) : ux_R kd (upd st p x) pp qp pc pn := by
  intro a ha
  by_cases e : a = p
  · rw [e, ux_us]
    subst e
    obtain ⟨h1, h2, h3⟩ := hR a ha
    refine ⟨?_, fun _ => h2 ?_, fun _ => h3 hp⟩
    · rcases hs with h | h
      · exact Or.inr (Or.inl h)
      · exact Or.inr (Or.inr (Or.inl h))
    · rcases hp with h | h <;> rw [h] <;> decide
  · rw [ux_un e]; exact hR a ha
theorem ux_Z_st (hZ : ux_Z st ds) (hs : x = 1 ∨ x = 2) : ux_Z (upd st p x) ds := by
  intro a i ha hi h
  by_cases e : a = p
  · rw [e, ux_us] at h
    rcases hs with h2 | h2 <;> rw [h2] at h <;> exact absurd h (by decide)
  · rw [ux_un e] at h; exact hZ a i ha hi h
theorem ux_Z_fr (hZ : ux_Z st ds) (h3 : st p = 3) : ux_Z (upd st p 0) ds := by
  intro a i ha hi h
  by_cases e : a = p
  · rw [e]; rw [e] at ha; exact hZ p i ha hi (Or.inr h3)
  · rw [ux_un e] at h; exact hZ a i ha hi h
/-! an end: children, as each side has them behind the first i -/
def ux_s1 (st pp : Nat → Int32) (p i : Nat) : Nat → Int32 := fun c => if c < i ∧ pp c = nI p ∧ st c = 3 then 0 else st c
def ux_p1 (pp : Nat → Int32) (p i : Nat) : Nat → Int32 := fun c => if c < i ∧ pp c = nI p then -1 else pp c
def ux_s2 (st qp : Nat → Int32) (p i : Nat) : Nat → Int32 := fun c => if c < i ∧ c ≠ p ∧ st c ≠ 0 ∧ qp c = nI p ∧ st c = 3 then 0 else st c
def ux_p2 (st qp : Nat → Int32) (p i : Nat) : Nat → Int32 := fun c => if c < i ∧ c ≠ p ∧ st c ≠ 0 ∧ qp c = nI p then -1 else qp c
theorem ux_own (hR : ux_R kd st pp qp pc pn) (hp : p < 5) (hs : st p ≠ 0) : pp p ≠ nI p := by
  intro e
  rcases ((hR p hp).2.1 hs).2 with h | ⟨c, hc, hcp, h⟩
  · rw [h] at e; exact ux_neg1 (by omega) e.symm
  · rw [h] at e; exact hcp (ux_inj e (by omega) (by omega))
theorem ux_s12 (hR : ux_R kd st pp qp pc pn) (hp : p < 5) (hs : st p ≠ 0) : ux_s2 st qp p 5 = ux_s1 st pp p 5 := by
  funext a
  unfold ux_s1 ux_s2
  by_cases h3 : a < 5 ∧ st a = 3
  · have h0 : st a ≠ 0 := by rw [h3.2]; decide
    have hq := ((hR a h3.1).2.1 h0).1
    by_cases e : pp a = nI p
    · have hap : a ≠ p := fun z => ux_own hR hp hs (z ▸ e)
      rw [if_pos ⟨h3.1, hap, h0, hq ▸ e, h3.2⟩, if_pos ⟨h3.1, e, h3.2⟩]
    · rw [if_neg (fun z => e (hq ▸ z.2.2.2.1)), if_neg (fun z => e z.2.1)]
  · rw [if_neg (fun z => h3 ⟨z.1, z.2.2.2.2⟩), if_neg (fun z => h3 ⟨z.1, z.2.2⟩)]
theorem ux_s1_of (h : ux_s1 st pp p k c = x) (hx : x ≠ 0) : st c = x := by
  unfold ux_s1 at h
  by_cases z : c < k ∧ pp c = nI p ∧ st c = 3
  · rw [if_pos z] at h; exact absurd h.symm hx
  · rw [if_neg z] at h; exact h
theorem ux_s1_to (h : st c ≠ 3) : ux_s1 st pp p k c = st c := if_neg (fun z => h z.2.2)
theorem ux_R_end (hR : ux_R kd st pp qp pc pn) (hp : p < 5) (hs : st p ≠ 0) (hx : x = 0 ∨ x = 3) : ux_R kd (upd (ux_s1 st pp p 5) p x) (ux_p1 pp p 5) (ux_p2 st qp p 5) pc pn := by
  intro a ha
  obtain ⟨h1, h2, h3⟩ := hR a ha
  by_cases e : a = p
  · subst e
    rw [ux_us]
    refine ⟨?_, fun _ => ?_, fun h => ?_⟩
    · rcases hx with h | h
      · exact Or.inl h
      · exact Or.inr (Or.inr (Or.inr h))
    · have e1 : ux_p1 pp a 5 a = pp a := if_neg (fun z => ux_own hR hp hs z.2)
      have e2 : ux_p2 st qp a 5 a = qp a := if_neg (fun z => z.2.1 rfl)
      rw [e1, e2]
      exact h2 hs
    · rcases hx with h5 | h5 <;> rw [h5] at h <;> exact absurd h (by decide)
  · rw [ux_un e]
    refine ⟨?_, fun h0 => ?_, fun h => ?_⟩
    · by_cases z : a < 5 ∧ pp a = nI p ∧ st a = 3
      · exact Or.inl (if_pos z)
      · rw [show ux_s1 st pp p 5 a = st a from if_neg z]; exact h1
    · have hsa : st a ≠ 0 := by
        intro z
        rw [ux_s1_to (by rw [z]; decide)] at h0
        exact h0 z
      obtain ⟨g1, g2⟩ := h2 hsa
      by_cases ep : pp a = nI p
      · have e1 : ux_p1 pp p 5 a = -1 := if_pos ⟨ha, ep⟩
        have e2 : ux_p2 st qp p 5 a = -1 := if_pos ⟨ha, e, hsa, g1 ▸ ep⟩
        rw [e1, e2]
        exact ⟨rfl, Or.inl rfl⟩
      · have e1 : ux_p1 pp p 5 a = pp a := if_neg (fun z => ep z.2)
        have e2 : ux_p2 st qp p 5 a = qp a := if_neg (fun z => ep (g1 ▸ z.2.2.2))
        rw [e1, e2]
        exact ⟨g1, g2⟩
    · refine h3 ?_
      rcases h with h | h
      · exact Or.inl (ux_s1_of h (by decide))
      · exact Or.inr (ux_s1_of h (by decide))
def ux_zp (ds : Nat → Int32) (p : Nat) : Nat → Int32 := upd (upd (upd (upd ds (p * 4) 0) (p * 4 + 1) 0) (p * 4 + 2) 0) (p * 4 + 3) 0
theorem ux_zp_in (hd : d < 4) : ux_zp ds p (p * 4 + d) = 0 := by
  unfold ux_zp upd
  split
  · rfl
  · split
    · rfl
    · split
      · rfl
      · split
        · rfl
        · omega
theorem ux_zp_or (j : Nat) : ux_zp ds p j = 0 ∨ ux_zp ds p j = ds j := by
  unfold ux_zp upd
  split
  · exact Or.inl rfl
  · split
    · exact Or.inl rfl
    · split
      · exact Or.inl rfl
      · split
        · exact Or.inl rfl
        · exact Or.inr rfl
theorem ux_D_zp (hD : ux_D ds) : ux_D (ux_zp ds p) := by
  intro j hj
  rcases ux_zp_or (ds := ds) (p := p) j with h | h
  · exact Or.inl h
  · rw [h]; exact hD j hj
theorem ux_O_zp (hO : ux_O kd ds fi ow po) : ux_O kd (ux_zp ds p) fi ow po := by
  refine ux_O_sub hO (fun j o hj ho e => ⟨j, hj, ?_⟩)
  rcases ux_zp_or (ds := ds) (p := p) j with h | h
  · rw [h] at e; exact absurd e.symm (ux_nz (by omega) (by omega))
  · rw [← h]; exact e
theorem ux_Z_end (hZ : ux_Z st ds) : ux_Z (upd (ux_s1 st pp p 5) p x) (ux_zp ds p) := by
  intro a i ha hi h
  by_cases e : a = p
  · rw [e]; exact ux_zp_in hi
  · rw [ux_un e] at h
    have hs : st a = 0 ∨ st a = 3 := by
      by_cases z : a < 5 ∧ pp a = nI p ∧ st a = 3
      · exact Or.inr z.2.2
      · rw [show ux_s1 st pp p 5 a = st a from if_neg z] at h; exact h
    rcases ux_zp_or (ds := ds) (p := p) (a * 4 + i) with h2 | h2
    · exact h2
    · rw [h2]; exact hZ a i ha hi hs
end UX3
