section UX5
def ux_J (B : Nat) (kd ns np en ds fi ow po st pp qp pc pn pl qu : Nat → Int32) (m c : Nat) : Prop :=
  ux_FS kd ns np en ∧ ux_D ds ∧ ux_O kd ds fi ow po ∧ ux_Z st ds ∧ ux_R kd st pp qp pc pn ∧ ux_Q st qu m ∧ ux_I pl ∧ ux_L kd en ds fi ∧ c ≤ B
variable {kd ns np en ds fi ow po st pp qp pc pn pl qu q2 : Nat → Int32} {B C n d m m2 p c k o a j q e : Nat} {x y t w z : Int32}
theorem ux_J_mono (hJ : ux_J B kd ns np en ds fi ow po st pp qp pc pn pl qu m c) (h : B ≤ C) : ux_J C kd ns np en ds fi ow po st pp qp pc pn pl qu m c := by
  obtain ⟨h1, h2, h3, h4, h5, h6, h7, h8, h9⟩ := hJ
  exact ⟨h1, h2, h3, h4, h5, h6, h7, h8, Nat.le_trans h9 h⟩
theorem ux_J_out (hJ : ux_J B kd ns np en ds fi ow po st pp qp pc pn pl qu m c) : ux_J (B + 1) kd ns np en ds fi ow po st pp qp pc pn pl qu m (c + 1) := by
  obtain ⟨h1, h2, h3, h4, h5, h6, h7, h8, h9⟩ := hJ
  exact ⟨h1, h2, h3, h4, h5, h6, h7, h8, by omega⟩
theorem ux_J_end (hJ : ux_J B kd ns np en ds fi ow po st pp qp pc pn pl qu m c) (hp : p < 5) (hs : st p = 1 ∨ st p = 2) (hx : x = 0 ∨ x = 3) (hQ : ux_Q st q2 m2) (hN : ux_N q2 m2 p) :
    ux_J B (ux_ck kd en (ux_zp ds p) fi) ns np en (ux_zp ds p) fi ow po (upd (ux_s1 st pp p 5) p x) (ux_p1 pp p 5) (ux_p2 st qp p 5) pc pn pl q2 m2 c := by
  obtain ⟨h1, h2, h3, h4, h5, h6, h7, h8, h9⟩ := hJ
  have h0 : st p ≠ 0 := by rcases hs with h | h <;> rw [h] <;> decide
  exact ⟨ux_FS_ck h1, ux_D_zp h2, ux_O_ck (ux_O_zp h3), ux_Z_end h4, ux_R_ck (ux_R_end h5 hp h0 hx), ux_Q_end hQ hN, h7, ux_L_ck, h9⟩
/-! a new process -/
theorem ux_J_spawn (hJ : ux_J B kd ns np en ds fi ow po st pp qp pc pn pl qu m c) (hp : p < 5) (hs : st p = 0) (hq : q ≤ 20) :
    m < 5 ∧ ux_J B kd ns np en ds fi ow po (upd st p 1) (upd pp p (-1)) (upd qp p (-1)) (upd pc p 0) (upd pn p (nI q)) pl (upd qu m (nI p)) (m + 1) c := by
  obtain ⟨h1, h2, h3, h4, h5, h6, h7, h8, h9⟩ := hJ
  have hN := ux_Q_N h6 (by rw [hs]; decide) hp
  exact ⟨ux_room h6 hp hN, h1, h2, h3, ux_Z_st h4 (Or.inl rfl), ux_R_one (d := 0) h5 (Or.inl rfl) (Or.inl rfl) (by omega) h1.1.1 hq, ux_Q_join (ux_Q_up1 h6) hp hN ux_us, h7, h8, h9⟩
def ux_c4 (f : Nat → Int32) (c p : Nat) : Nat → Int32 := upd (upd (upd (upd f (c * 4) (f (p * 4))) (c * 4 + 1) (f (p * 4 + 1))) (c * 4 + 2) (f (p * 4 + 2))) (c * 4 + 3) (f (p * 4 + 3))
theorem ux_c4_or {f : Nat → Int32} (j : Nat) : (∃ i, i < 4 ∧ j = c * 4 + i ∧ ux_c4 f c p j = f (p * 4 + i)) ∨ ((∀ i, i < 4 → j ≠ c * 4 + i) ∧ ux_c4 f c p j = f j) := by
  unfold ux_c4 upd
  split
  · exact Or.inl ⟨3, by omega, by assumption, rfl⟩
  · split
    · exact Or.inl ⟨2, by omega, by assumption, rfl⟩
    · split
      · exact Or.inl ⟨1, by omega, by assumption, rfl⟩
      · split
        · exact Or.inl ⟨0, by omega, by assumption, rfl⟩
        · exact Or.inr ⟨fun i hi => by omega, rfl⟩
theorem ux_J_fork (hJ : ux_J B kd ns np en ds fi ow po st pp qp pc pn pl qu m e) (hp : p < 5) (hs : st p = 1) (hc : c < 5) (h0 : st c = 0) (hd : d < 10) (hd2 : kd d = 2) (hq : q ≤ 20) (hN : ux_N qu m p) :
    m < 5 ∧ ux_J B kd ns np en (ux_c4 ds c p) fi ow po (upd st c 1) (upd pp c (nI p)) (upd qp c (nI p)) (upd pc c (nI d)) (upd pn c (nI q)) pl (upd qu m (nI c)) (m + 1) e ∧ ux_N (upd qu m (nI c)) (m + 1) p ∧ c ≠ p := by
  obtain ⟨h1, h2, h3, h4, h5, h6, h7, h8, h9⟩ := hJ
  have hcp : c ≠ p := by
    intro z; rw [z, hs] at h0; exact absurd h0 (by decide)
  have hNc := ux_Q_N h6 (by rw [h0]; decide) hc
  refine ⟨ux_room h6 hc hNc, ⟨h1, ?_, ?_, ?_, ux_R_one h5 (Or.inl rfl) (Or.inr ⟨p, hp, Ne.symm hcp, rfl⟩) hd hd2 hq, ux_Q_join (ux_Q_up1 h6) hc hNc ux_us, h7, ?_, h9⟩, ux_N_join hN hcp hc hp, hcp⟩
  · intro j hj
    rcases ux_c4_or (f := ds) (c := c) (p := p) j with ⟨i, hi, _, ej⟩ | ⟨_, ej⟩
    · rw [ej]; exact h2 _ (by omega)
    · rw [ej]; exact h2 _ hj
  · refine ux_O_sub h3 (fun j o hj ho ee => ?_)
    rcases ux_c4_or (f := ds) (c := c) (p := p) j with ⟨i, hi, _, ej⟩ | ⟨_, ej⟩
    · exact ⟨p * 4 + i, by omega, by rw [← ej]; exact ee⟩
    · exact ⟨j, hj, by rw [← ej]; exact ee⟩
  · intro b i hb hi hz
    have hbc : b ≠ c := by
      intro z; rw [z, ux_us] at hz; exact absurd hz (by decide)
    rw [ux_un hbc] at hz
    rcases ux_c4_or (f := ds) (c := c) (p := p) (b * 4 + i) with ⟨i2, hi2, ej, _⟩ | ⟨_, ej⟩
    · omega
    · rw [ej]; exact h4 b i hb hi hz
  · refine ux_L_mono h8 (fun j o hj ho ee => ⟨j, hj, ?_⟩)
    rcases ux_c4_or (f := ds) (c := c) (p := p) j with ⟨i, hi, ec, _⟩ | ⟨_, ej⟩
    · rw [ec, h4 c i hc hi (Or.inl h0)] at ee
      exact absurd ee.symm (ux_nz (by omega) (by omega))
    · rw [ej]; exact ee
theorem ux_J_free (hJ : ux_J B kd ns np en ds fi ow po st pp qp pc pn pl qu m e) (hc : c < 5) (h3 : st c = 3) : ux_J B kd ns np en ds fi ow po (upd st c 0) pp qp pc pn pl qu m e := by
  obtain ⟨h1, h2, h3', h4, h5, h6, h7, h8, h9⟩ := hJ
  exact ⟨h1, h2, h3', ux_Z_fr h4 h3, ux_R_fr h5, ux_Q_upd h6 (ux_Q_N h6 (by rw [h3]; decide) hc), h7, h8, h9⟩
theorem ux_J_stop (hJ : ux_J B kd ns np en ds fi ow po st pp qp pc pn pl qu m e) (hs : st p = 1) (hN : ux_N qu m p) : ux_J B kd ns np en ds fi ow po (upd st p 2) pp qp pc pn pl qu m e := by
  obtain ⟨h1, h2, h3, h4, h5, h6, h7, h8, h9⟩ := hJ
  exact ⟨h1, h2, h3, ux_Z_st h4 (Or.inr rfl), ux_R_st h5 (Or.inl hs) (Or.inr rfl), ux_Q_upd h6 hN, h7, h8, h9⟩
theorem ux_J_wake (hJ : ux_J B kd ns np en ds fi ow po st pp qp pc pn pl qu m e) (hp : p < 5) (hs : st p = 2) : m < 5 ∧ ux_J B kd ns np en ds fi ow po (upd st p 1) pp qp pc pn pl (upd qu m (nI p)) (m + 1) e := by
  obtain ⟨h1, h2, h3, h4, h5, h6, h7, h8, h9⟩ := hJ
  have hN := ux_Q_N h6 (by rw [hs]; decide) hp
  exact ⟨ux_room h6 hp hN, h1, h2, h3, ux_Z_st h4 (Or.inl rfl), ux_R_st h5 (Or.inr hs) (Or.inl rfl), ux_Q_join (ux_Q_up1 h6) hp hN ux_us, h7, h8, h9⟩
theorem ux_J_join (hJ : ux_J B kd ns np en ds fi ow po st pp qp pc pn pl qu m e) (hp : p < 5) (hs : st p = 1) (hN : ux_N qu m p) : m < 5 ∧ ux_J B kd ns np en ds fi ow po st pp qp pc pn pl (upd qu m (nI p)) (m + 1) e := by
  obtain ⟨h1, h2, h3, h4, h5, h6, h7, h8, h9⟩ := hJ
  exact ⟨ux_room h6 hp hN, h1, h2, h3, h4, h5, ux_Q_join h6 hp hN hs, h7, h8, h9⟩
theorem ux_J_take (hJ : ux_J B kd ns np en ds fi ow po st pp qp pc pn pl qu m e) : ux_J B kd ns np en ds fi ow po st pp qp pc pn pl (ux_lk qu p m).1 (ux_lk qu p m).2 e ∧ ux_N (ux_lk qu p m).1 (ux_lk qu p m).2 p := by
  obtain ⟨h1, h2, h3, h4, h5, h6, h7, h8, h9⟩ := hJ
  exact ⟨⟨h1, h2, h3, h4, h5, (ux_Q_lk h6).1, h7, h8, h9⟩, (ux_Q_lk h6).2⟩
theorem ux_J_pc (hJ : ux_J B kd ns np en ds fi ow po st pp qp pc pn pl qu m e) (hd : d < 10) (hd2 : kd d = 2) : ux_J B kd ns np en ds fi ow po st pp qp (upd pc p (nI d)) pn pl qu m e := by
  obtain ⟨h1, h2, h3, h4, h5, h6, h7, h8, h9⟩ := hJ
  exact ⟨h1, h2, h3, h4, ux_R_pc h5 hd hd2, h6, h7, h8, h9⟩
theorem ux_J_pn (hJ : ux_J B kd ns np en ds fi ow po st pp qp pc pn pl qu m e) (hq : q ≤ 20) : ux_J B kd ns np en ds fi ow po st pp qp pc (upd pn p (nI q)) pl qu m e := by
  obtain ⟨h1, h2, h3, h4, h5, h6, h7, h8, h9⟩ := hJ
  exact ⟨h1, h2, h3, h4, ux_R_pn h5 hq, h6, h7, h8, h9⟩
theorem ux_J_po (hJ : ux_J B kd ns np en ds fi ow po st pp qp pc pn pl qu m e) (hq : q ≤ 20) : ux_J B kd ns np en ds fi ow (upd po o (nI q)) st pp qp pc pn pl qu m e := by
  obtain ⟨h1, h2, h3, h4, h5, h6, h7, h8, h9⟩ := hJ
  exact ⟨h1, h2, ux_O_po h3 hq, h4, h5, h6, h7, h8, h9⟩
theorem ux_J_pl (hJ : ux_J B kd ns np en ds fi ow po st pp qp pc pn pl qu m e) (hq : q ≤ 4) : ux_J B kd ns np en ds fi ow po st pp qp pc pn (upd pl k (nI q)) qu m e := by
  obtain ⟨h1, h2, h3, h4, h5, h6, h7, h8, h9⟩ := hJ
  refine ⟨h1, h2, h3, h4, h5, h6, fun a ha => ?_, h8, h9⟩
  by_cases ea : a = k
  · rw [ea, ux_us]; exact ⟨q, hq, rfl⟩
  · rw [ux_un ea]; exact h7 a ha
theorem ux_J_ns (hJ : ux_J B kd ns np en ds fi ow po st pp qp pc pn pl qu m e) (hk : kd n = 1) (hq : q ≤ 20) : ux_J B kd (upd ns n (nI q)) np en ds fi ow po st pp qp pc pn pl qu m e := by
  obtain ⟨h1, h2, h3, h4, h5, h6, h7, h8, h9⟩ := hJ
  exact ⟨ux_FS_ns h1 hk hq, h2, h3, h4, h5, h6, h7, h8, h9⟩
theorem ux_J_new (hJ : ux_J B kd ns np en ds fi ow po st pp qp pc pn pl qu m e) (h0 : 0 < n) (hn : n < 10) (hk : kd n = 0) (hd : d < 10) (hd2 : kd d = 2) (ha : a < 15) (he : en (d * 15 + a) = 0) (hc : ux_cn en d < 6) (ht : t = 1 ∨ t = 2) :
    ux_J B (upd kd n t) (upd (upd ns n 0) d (upd ns n 0 d + 1)) (upd np n (nI d)) (upd en (d * 15 + a) (nI n)) ds fi ow po st pp qp pc pn pl qu m e := by
  obtain ⟨h1, h2, h3, h4, h5, h6, h7, h8, h9⟩ := hJ
  exact ⟨ux_FS_new h1 h0 hn hk hd hd2 ha he hc ht, h2, ux_O_new h3 (by rw [hk]; exact ux_n01), h4, ux_R_new h5 (by rw [hk]; exact ux_n02), h6, h7, ux_L_new h8 hd ha he, h9⟩
theorem ux_J_opn (hJ : ux_J B kd ns np en ds fi ow po st pp qp pc pn pl qu m e) (hp : p < 5) (hs : st p = 1) (hd : d < 4) (hz : ds (p * 4 + d) = 0) (ho : o < 8) (hh : ∀ j, j < 20 → ds j ≠ nI (1 + o)) (hn0 : 0 < n) (hn : n < 10) (hk : kd n = 1) (hw : w = 0 ∨ w = 1) (hq : q ≤ 20) :
    ux_J B kd ns np en (upd ds (p * 4 + d) (nI (1 + o))) (upd fi o (nI n)) (upd ow o w) (upd po o (nI q)) st pp qp pc pn pl qu m e := by
  obtain ⟨h1, h2, h3, h4, h5, h6, h7, h8, h9⟩ := hJ
  exact ⟨h1, ux_D_upd h2 (Or.inr (Or.inl ⟨o, ho, rfl⟩)), ux_O_open h3 ho hn0 hn hk hw hq hh, ux_Z_upd h4 (Or.inl hs) hd, h5, h6, h7, ux_L_open h8 hz hh, h9⟩
theorem ux_J_copy (hJ : ux_J B kd ns np en ds fi ow po st pp qp pc pn pl qu m e) (hs : st p = 1) (hd : d < 4) (hz : ds (p * 4 + d) = 0) (hj : j < 20) :
    ux_J B kd ns np en (upd ds (p * 4 + d) (ds j)) fi ow po st pp qp pc pn pl qu m e := by
  obtain ⟨h1, h2, h3, h4, h5, h6, h7, h8, h9⟩ := hJ
  refine ⟨h1, ux_D_upd h2 (h2 j hj), ux_O_sub h3 (fun i o hi ho ee => ?_), ux_Z_upd h4 (Or.inl hs) hd, h5, h6, h7, ux_L_mono h8 (ux_grow hz), h9⟩
  by_cases ei : i = p * 4 + d
  · rw [ei, ux_us] at ee; exact ⟨j, hj, ee⟩
  · rw [ux_un ei] at ee; exact ⟨i, hi, ee⟩
/-- a descriptor that was nothing becomes an end of a pipe -/
theorem ux_J_pend (hJ : ux_J B kd ns np en ds fi ow po st pp qp pc pn pl qu m e) (hs : st p = 1) (hd : d < 4) (hz : ds (p * 4 + d) = 0) (hx : ∃ k, k < 2 ∧ (x = nI (4096 + k) ∨ x = nI (8192 + k))) :
    ux_J B kd ns np en (upd ds (p * 4 + d) x) fi ow po st pp qp pc pn pl qu m e := by
  obtain ⟨h1, h2, h3, h4, h5, h6, h7, h8, h9⟩ := hJ
  obtain ⟨k, hk, hx⟩ := hx
  refine ⟨h1, ux_D_upd h2 ?_, ux_O_sub h3 (fun i o hi ho ee => ?_), ux_Z_upd h4 (Or.inl hs) hd, h5, h6, h7, ux_L_mono h8 (ux_grow hz), h9⟩
  · rcases hx with h | h
    · exact Or.inr (Or.inr (Or.inl ⟨k, hk, h⟩))
    · exact Or.inr (Or.inr (Or.inr ⟨k, hk, h⟩))
  · by_cases ei : i = p * 4 + d
    · rw [ei, ux_us] at ee
      rcases hx with h | h <;> rw [h] at ee <;> have := ux_inj ee (by omega) (by omega) <;> omega
    · rw [ux_un ei] at ee; exact ⟨i, hi, ee⟩
theorem ux_J_close (hJ : ux_J B kd ns np en ds fi ow po st pp qp pc pn pl qu m e) (hs : st p = 1) (hd : d < 4) :
    ux_J B (ux_ck kd en (upd ds (p * 4 + d) 0) fi) ns np en (upd ds (p * 4 + d) 0) fi ow po st pp qp pc pn pl qu m e := by
  obtain ⟨h1, h2, h3, h4, h5, h6, h7, h8, h9⟩ := hJ
  refine ⟨ux_FS_ck h1, ux_D_upd h2 (Or.inl rfl), ux_O_ck (ux_O_sub h3 (fun i o hi ho ee => ?_)), ux_Z_upd h4 (Or.inl hs) hd, ux_R_ck h5, h6, h7, ux_L_ck, h9⟩
  by_cases ei : i = p * 4 + d
  · rw [ei, ux_us] at ee; exact absurd ee.symm (ux_nz (by omega) (by omega))
  · rw [ux_un ei] at ee; exact ⟨i, hi, ee⟩
theorem ux_J_link (hJ : ux_J B kd ns np en ds fi ow po st pp qp pc pn pl qu m e) (h0 : 0 < n) (hn : n < 10) (hk : kd n = 1) (hd : d < 10) (hd2 : kd d = 2) (ha : a < 15) (he : en (d * 15 + a) = 0) (hc : ux_cn en d < 6) :
    ux_J B kd (upd ns d (ns d + 1)) np (upd en (d * 15 + a) (nI n)) ds fi ow po st pp qp pc pn pl qu m e := by
  obtain ⟨h1, h2, h3, h4, h5, h6, h7, h8, h9⟩ := hJ
  exact ⟨ux_FS_link h1 h0 hn hk hd hd2 ha he hc, h2, h3, h4, h5, h6, h7, ux_L_en h8 hd ha he, h9⟩
theorem ux_J_rm (hJ : ux_J B kd ns np en ds fi ow po st pp qp pc pn pl qu m e) (h0 : 0 < n) (hn : n < 10) (hk : kd n ≠ 2) (hd : d < 10) (ha : a < 15) (he : en (d * 15 + a) = nI n) (hz : nI (ux_cn en d) = z + 1) :
    ux_J B (ux_ck kd (upd en (d * 15 + a) 0) ds fi) (upd ns d z) np (upd en (d * 15 + a) 0) ds fi ow po st pp qp pc pn pl qu m e := by
  obtain ⟨h1, h2, h3, h4, h5, h6, h7, h8, h9⟩ := hJ
  exact ⟨ux_FS_ck (ux_FS_rm h1 h0 hn hk hd ha he hz), h2, ux_O_ck h3, h4, ux_R_ck h5, h6, h7, ux_L_ck, h9⟩
theorem ux_J_rmd (hJ : ux_J B kd ns np en ds fi ow po st pp qp pc pn pl qu m e) (h0 : 0 < n) (hn : n < 10) (hk : kd n = 2) (hd : d < 10) (ha : a < 15) (he : en (d * 15 + a) = nI n) (hz : nI (ux_cn en d) = z + 1) (hc : ux_cn en n = 0) (hpl : ∀ p, p < 5 → (st p = 1 ∨ st p = 2) → pc p ≠ nI n) :
    ux_J B (ux_ck (upd kd n 0) (upd en (d * 15 + a) 0) ds fi) (upd ns d z) np (upd en (d * 15 + a) 0) ds fi ow po st pp qp pc pn pl qu m e := by
  obtain ⟨h1, h2, h3, h4, h5, h6, h7, h8, h9⟩ := hJ
  refine ⟨ux_FS_ck (ux_FS_rmd h1 h0 hn hk hd ha he hz hc), h2, ux_O_ck (ux_O_new h3 (by rw [hk]; exact ux_n21)), h4, ux_R_ck (ux_R_kd h5 (fun b i hb hs e1 hi e2 => ?_)), h6, h7, ux_L_ck, h9⟩
  rw [ux_un (show i ≠ n from fun z => hpl b hb hs (by rw [← z]; exact e1))]; exact e2
end UX5
