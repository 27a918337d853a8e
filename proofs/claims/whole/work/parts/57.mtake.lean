/-! the house that was told -/
def hD (D : Dr) : Hs := fun a k => if a = 1 then (if D.1 0 4 = 0 then 0 else D.1 1 (k % D.1 0 4)) else D.1 a k
def bD (D : Dr) : Bt := fun p i => if p = 7 then 0 else D.2 p i
theorem bD_p {D : Dr} {p i : Nat} (h : p < 7) : bD D p i = D.2 p i := if_neg (by omega)
theorem hD_1 {D : Dr} (d : DOK D) (c : Nat) : hD D 1 c ≤ 9 := by
  show (if D.1 0 4 = 0 then 0 else D.1 1 (c % D.1 0 4)) ≤ 9
  by_cases q : D.1 0 4 = 0
  · rw [if_pos q]; omega
  · rw [if_neg q]
    exact d.2.2.2.2.2.2.2.1 _ (Nat.mod_lt _ (by omega))
theorem hD_ok {D : Dr} (d : DOK D) : hok (hD D) := by
  have h1 := hD_1 d
  obtain ⟨d1, d2, d3, d4, d5, d6, d7, d8, d9, d10⟩ := d
  exact ⟨d1, d2, d3, d4, fun q => ⟨(d6 q).1, (d6 q).2.1, (d6 q).2.2.1⟩, d7, h1, d9⟩
theorem bD_ok {D : Dr} (d : DOK D) : bok (hD D) (bD D) := by
  have hM7 := d.2.2.2.1
  refine ⟨fun p hp i hi => ?_, Nat.zero_le _, Nat.zero_le _⟩
  have hp : p < hM D.1 := hp
  rw [bD_p (by omega)]
  exact d.2.2.2.2.2.2.2.2.2 p hp i hi
theorem CD.ch {μ : Mm} {W : Nat} {D : Dr} (c : CD μ W D) (d : DOK D) : CH μ W (hD D) := by
  obtain ⟨c1, c2, c3, c4, c5, c6, c7, c8, c9, c10, c11⟩ := c
  refine ⟨c1, c2, c3, c4, c5, ⟨D.1 0 4, d.2.2.2.2.1, c6, fun k hk => ⟨fun q => ?_, fun q => ?_⟩⟩, c8⟩
  · show (if D.1 0 4 = 0 then 0 else D.1 1 (k % D.1 0 4)) = 0
    rw [if_pos q]
  · show _ = nI (if D.1 0 4 = 0 then 0 else D.1 1 (k % D.1 0 4))
    rw [if_neg (by omega)]
    exact c7 _ (Nat.mod_lt _ q)
theorem bD_y {D : Dr} (d : DOK D) (i : Nat) : yS (hD D) (bD D) i = yS D.1 D.2 i ∧ nS (hD D) (bD D) i = nS D.1 D.2 i := by
  have hM7 := d.2.2.2.1
  constructor
  · show bset (fun p => decide (bD D p i = 1)) (hM D.1) = _
    exact bset_cong (fun k hk => by rw [bD_p (by omega)])
  · show bset (fun p => decide (bD D p i = 0)) (hM D.1) = _
    exact bset_cong (fun k hk => by rw [bD_p (by omega)])
theorem CD.cb {μ : Mm} {W : Nat} {D : Dr} (c : CD μ W D) (d : DOK D) : CB μ (W + 5) (hD D) (bD D) := by
  obtain ⟨c1, c2, c3, c4, c5, c6, c7, c8, c9, c10, c11⟩ := c
  refine ⟨fun i hi => ?_, c10, c11⟩
  rw [(bD_y d i).1, (bD_y d i).2]
  exact c9 i hi
/-! the reference takes it -/
theorem tr_votes {P Q M : Nat} (hM7 : M ≤ 7) : ∀ (m k f : Nat) (μ : Mm), k + m = 35 → m < f → μ.2 = RFt P Q → μ.1 107 7 = nI M →
    ∃ μ', f_X10_takeRead_L132 f μ 107 (nI k) = some μ' ∧ Ag μ μ' (fun a => a = 112) ∧ (∀ j, k ≤ j → j < 35 → j / 5 < M → μ'.1 112 j = μ.1 119 j) ∧ (∀ j, j < k → μ'.1 112 j = μ.1 112 j) ∧ μ'.1 112 35 = 0 ∧ μ'.1 112 36 = -1 := by
  intro m
  induction m with
  | zero =>
    intro k f μ hm hf hr h7
    obtain ⟨f, rfl⟩ := fs1 hf
    have hk : k = 35 := by omega
    subst hk
    refine ⟨(up2 (up2 μ.1 112 35 0) 112 36 (-1), μ.2), ?_, (Ag.up (X := fun a => a = 112) rfl).u1 rfl, fun j h1 h2 => absurd h1 (by omega), fun j hj => ?_, rfl, rfl⟩
    · show f_X10_takeRead_L132b _ _ _ _ = _
      unfold f_X10_takeRead_L132b
      rw [if_pos (by decide), rd hr (rt_107_8 P Q), bR_s, show ckb (35 : Int32) (ln 112) = true from rfl, gd_t, bM_s]
      dsimp only
      rw [rd hr (rt_107_8 P Q), bR_s, show ckb (36 : Int32) (ln 112) = true from rfl, gd_t, bM_s]
      rfl
    · show up2 (up2 μ.1 112 35 0) 112 36 (-1) 112 j = _
      rw [up2_nk (by omega), up2_nk (by omega)]
  | succ m ih =>
    intro k f μ hm hf hr h7
    obtain ⟨f, rfl⟩ := fs1 hf
    have go : ∀ v : Int32, (k / 5 < M → v = μ.1 119 k) → ∃ μ', f_X10_takeRead_j163 (f_X10_takeRead_L132 f) μ 107 (nI k) v (nI k) 112 = some μ' ∧ Ag μ μ' (fun a => a = 112) ∧ (∀ j, k ≤ j → j < 35 → j / 5 < M → μ'.1 112 j = μ.1 119 j) ∧ (∀ j, j < k → μ'.1 112 j = μ.1 112 j) ∧ μ'.1 112 35 = 0 ∧ μ'.1 112 36 = -1 := by
      intro v hv
      have gu : Ag μ (up2 μ.1 112 k v, μ.2) (fun a => a = 112) := Ag.up rfl
      obtain ⟨μ', e1, e2, e3, e4, e5⟩ := ih (k + 1) f (up2 μ.1 112 k v, μ.2) (by omega) (by omega) hr h7
      refine ⟨μ', ?_, gu.tr e2, fun j h1 h2 h3 => ?_, fun j hj => (e4 j (by omega)).trans (up2_nk (by omega)), e5⟩
      · unfold f_X10_takeRead_j163
        rw [ckb_n (show k < ln 112 by show k < 37; omega) (by decide), gd_t, nI_clamp (by omega), bM_s, nI_p1]
        exact e1
      · by_cases q : j = k
        · rw [q] at h3 ⊢
          rw [e4 k (by omega)]
          exact (up2_at _ 112 k _).trans (hv h3)
        · exact e3 j (by omega) h2 h3
    show ∃ μ', f_X10_takeRead_L132b _ _ _ _ = _ ∧ _
    unfold f_X10_takeRead_L132b
    rw [if_neg (show ¬ (35 : Int32) ≤ nI k from nI_ge (b := 35) (by omega) (by decide)), rd hr (rt_107_8 P Q), bR_s, h7, show nI k / (5 : Int32) = nI (k / 5) from pk_div (d := 5) (by omega) (by decide) (by decide)]
    by_cases q : M ≤ k / 5
    · rw [if_pos (nI_le q (by omega))]
      exact go _ (fun w => absurd w (by omega))
    · rw [if_neg (nI_ge (by omega) (by omega)), rd hr (rt_107_24 P Q), bR_s, ckb_n (show k < ln 119 by show k < 35; omega) (by decide), gd_t, nI_clamp (by omega)]
      exact go _ (fun _ => rfl)
theorem tr_items {P Q N : Nat} (hN5 : N ≤ 5) : ∀ (m k f : Nat) (μ : Mm), k + m = N → m < f → μ.2 = RFt P Q → μ.1 107 3 = nI N →
    ∃ μ', f_X10_takeRead_L80 f μ 107 (nI k) = f_X10_takeRead_L132 FU μ' 107 0 ∧ Ag μ μ' (fun a => 109 ≤ a ∧ a ≤ 111) ∧ (∀ j, k ≤ j → j < N → μ'.1 109 j = μ.1 116 j ∧ μ'.1 110 j = μ.1 117 j ∧ μ'.1 111 j = μ.1 118 j) ∧ ∀ j, j < k → μ'.1 109 j = μ.1 109 j ∧ μ'.1 110 j = μ.1 110 j ∧ μ'.1 111 j = μ.1 111 j := by
  intro m
  induction m with
  | zero =>
    intro k f μ hm hf hr h3
    obtain ⟨f, rfl⟩ := fs1 hf
    refine ⟨μ, ?_, Ag.rf, fun j h1 h2 => absurd h1 (by omega), fun j hj => ⟨rfl, rfl, rfl⟩⟩
    show f_X10_takeRead_L80b _ _ _ _ = _
    unfold f_X10_takeRead_L80b
    rw [h3, if_pos (nI_le (by omega) (by omega))]
  | succ m ih =>
    intro k f μ hm hf hr h3
    obtain ⟨f, rfl⟩ := fs1 hf
    have gu : Ag μ (up2 (up2 (up2 μ.1 109 k (μ.1 116 k)) 110 k (μ.1 117 k)) 111 k (μ.1 118 k), μ.2) (fun a => 109 ≤ a ∧ a ≤ 111) := ((Ag.up (X := fun a => 109 ≤ a ∧ a ≤ 111) (by decide)).u1 (by decide)).u1 (by decide)
    obtain ⟨μ', e1, e2, e3, e4⟩ := ih (k + 1) f (up2 (up2 (up2 μ.1 109 k (μ.1 116 k)) 110 k (μ.1 117 k)) 111 k (μ.1 118 k), μ.2) (by omega) (by omega) hr h3
    have u9 : ∀ j, up2 (up2 (up2 μ.1 109 k (μ.1 116 k)) 110 k (μ.1 117 k)) 111 k (μ.1 118 k) 109 j = if j = k then μ.1 116 k else μ.1 109 j := fun j => by
      show up2 μ.1 109 k (μ.1 116 k) 109 j = _
      unfold up2; simp
    have u10 : ∀ j, up2 (up2 (up2 μ.1 109 k (μ.1 116 k)) 110 k (μ.1 117 k)) 111 k (μ.1 118 k) 110 j = if j = k then μ.1 117 k else μ.1 110 j := fun j => by
      show up2 (up2 μ.1 109 k (μ.1 116 k)) 110 k (μ.1 117 k) 110 j = _
      unfold up2; simp
    have u11 : ∀ j, up2 (up2 (up2 μ.1 109 k (μ.1 116 k)) 110 k (μ.1 117 k)) 111 k (μ.1 118 k) 111 j = if j = k then μ.1 118 k else μ.1 111 j := fun j => by
      unfold up2; simp
    have e4 : ∀ j, j < k + 1 → μ'.1 109 j = (if j = k then μ.1 116 k else μ.1 109 j) ∧ μ'.1 110 j = (if j = k then μ.1 117 k else μ.1 110 j) ∧ μ'.1 111 j = (if j = k then μ.1 118 k else μ.1 111 j) := fun j hj => by
      rw [← u9, ← u10, ← u11]
      exact e4 j hj
    refine ⟨μ', ?_, gu.tr e2, fun j h1 h2 => ?_, fun j hj => ?_⟩
    · show f_X10_takeRead_L80b _ _ _ _ = _
      unfold f_X10_takeRead_L80b
      rw [h3, if_neg (nI_ge (by omega) (by omega)), rd hr (rt_107_4 P Q), bR_s, rd hr (rt_107_20 P Q), bR_s, ckb_n (show k < ln 116 by show k < 5; omega) (by decide), gd_t, ckb_n (show k < ln 109 by show k < 5; omega) (by decide), gd_t, nI_clamp (by omega), bM_s]
      dsimp only
      rw [rd hr (rt_107_5 P Q), bR_s, rd hr (rt_107_21 P Q), bR_s, ckb_n (show k < ln 117 by show k < 5; omega) (by decide), gd_t, ckb_n (show k < ln 110 by show k < 5; omega) (by decide), gd_t, bM_s]
      dsimp only
      rw [rd hr (rt_107_6 P Q), bR_s, rd hr (rt_107_22 P Q), bR_s, ckb_n (show k < ln 118 by show k < 5; omega) (by decide), gd_t, ckb_n (show k < ln 111 by show k < 5; omega) (by decide), gd_t, bM_s, nI_p1]
      exact e1
    · by_cases q : j = k
      · have := e4 j (by omega)
        rw [if_pos q, if_pos q, if_pos q] at this
        rw [q] at this ⊢
        exact this
      · exact e3 j (by omega) h2
    · have := e4 j (by omega)
      rw [if_neg (by omega), if_neg (by omega), if_neg (by omega)] at this
      exact this
theorem tr_ground {P Q : Nat} {D : Dr} (ht : D.1 0 4 ≤ 20) : ∀ (m k f : Nat) (μ : Mm), k + m = 20 → m < f → μ.2 = RFt P Q → μ.1 107 18 = nI (D.1 0 4) → (∀ j, j < D.1 0 4 → μ.1 115 j = nI (D.1 1 j)) →
    ∃ μ', f_X10_takeRead_L38 f μ 107 (nI k) = f_X10_takeRead_L80 FU μ' 107 0 ∧ Ag μ μ' (fun a => a = 108) ∧ (∀ j, k ≤ j → j < 20 → μ'.1 108 j = nI (hD D 1 j)) ∧ ∀ j, j < k → μ'.1 108 j = μ.1 108 j := by
  intro m
  induction m with
  | zero =>
    intro k f μ hm hf hr h18 h115
    obtain ⟨f, rfl⟩ := fs1 hf
    refine ⟨μ, ?_, Ag.rf, fun j h1 h2 => absurd h1 (by omega), fun j hj => rfl⟩
    show f_X10_takeRead_L38b _ _ _ _ = _
    unfold f_X10_takeRead_L38b
    rw [show k = 20 by omega, if_pos (by decide)]
  | succ m ih =>
    intro k f μ hm hf hr h18 h115
    obtain ⟨f, rfl⟩ := fs1 hf
    have gu : Ag μ (up2 μ.1 108 k (nI (hD D 1 k)), μ.2) (fun a => a = 108) := Ag.up rfl
    obtain ⟨μ', e1, e2, e3, e4⟩ := ih (k + 1) f (up2 μ.1 108 k (nI (hD D 1 k)), μ.2) (by omega) (by omega) hr h18 h115
    refine ⟨μ', ?_, gu.tr e2, fun j h1 h2 => ?_, fun j hj => (e4 j (by omega)).trans (up2_nk (by omega))⟩
    · have hj : f_X10_takeRead_j71 (f_X10_takeRead_L38 f) μ 107 (nI k) (nI (hD D 1 k)) (nI k) 108 = f_X10_takeRead_L80 FU μ' 107 0 := by
        unfold f_X10_takeRead_j71
        rw [ckb_n (show k < ln 108 by show k < 20; omega) (by decide), gd_t, nI_clamp (by omega), bM_s, nI_p1]
        exact e1
      show f_X10_takeRead_L38b _ _ _ _ = _
      unfold f_X10_takeRead_L38b
      rw [if_neg (show ¬ (20 : Int32) ≤ nI k from nI_ge (b := 20) (by omega) (by decide)), rd hr (rt_107_2 P Q), bR_s, h18]
      by_cases q : D.1 0 4 = 0
      · have hv : hD D 1 k = 0 := if_pos q
        rw [hv] at hj
        rw [if_pos (show nI (D.1 0 4) = 0 by rw [q]; rfl)]
        exact hj
      · have hv : hD D 1 k = D.1 1 (k % D.1 0 4) := if_neg q
        have hm := Nat.mod_lt k (show 0 < D.1 0 4 by omega)
        rw [hv] at hj
        rw [if_neg (nI_ne0 (by omega) (by omega)), rd hr (rt_107_17 P Q), bR_s, ck0_n (by omega) (by omega), gd_t, pk_rem (by omega) (by omega) (by omega), ckb_n (show k % D.1 0 4 < ln 115 by show _ < 20; omega) (by decide), gd_t, nI_clamp (by omega), h115 _ hm]
        exact hj
    · by_cases q : j = k
      · rw [q, e4 k (by omega)]
        exact up2_at _ 108 k _
      · exact e3 j (by omega) h2
theorem take_eq {P Q : Nat} {μ : Mm} {D : Dr} (hr : μ.2 = RFt P Q) (c : MD μ D) (d : DOK D) :
    ∃ μ', f_X10_takeRead μ 107 = some μ' ∧ Ag μ μ' (fun a => 107 ≤ a ∧ a ≤ 112) ∧ (∀ s, ¬ (s = 0 ∨ s = 1 ∨ s = 3 ∨ s = 7) → μ'.1 107 s = μ.1 107 s) ∧ MH μ' (hD D) ∧ MB μ' 112 0 (hD D) (bD D) := by
  have hN5 := d.2.2.1
  have hM7 := d.2.2.2.1
  have h20 := d.2.2.2.2.1
  obtain ⟨c1, c2, c3, c4, c5, c6, c7, c8⟩ := c
  have g0 : Ag μ (up2 (up2 (up2 (up2 μ.1 107 0 (nI (hC D.1))) 107 1 (nI (hR D.1))) 107 3 (nI (hN D.1))) 107 7 (nI (hM D.1)), μ.2) (fun a => a = 107) := (((Ag.up (X := fun a => a = 107) rfl).u1 rfl).u1 rfl).u1 rfl
  have s0 : ∀ s, ¬ (s = 0 ∨ s = 1 ∨ s = 3 ∨ s = 7) → up2 (up2 (up2 (up2 μ.1 107 0 (nI (hC D.1))) 107 1 (nI (hR D.1))) 107 3 (nI (hN D.1))) 107 7 (nI (hM D.1)) 107 s = μ.1 107 s := fun s hs => by
    rw [up2_nk (by omega), up2_nk (by omega), up2_nk (by omega), up2_nk (by omega)]
  obtain ⟨μ1, e1, e2, e3, e4⟩ := tr_ground (P := P) (Q := Q) h20 20 0 FU (up2 (up2 (up2 (up2 μ.1 107 0 (nI (hC D.1))) 107 1 (nI (hR D.1))) 107 3 (nI (hN D.1))) 107 7 (nI (hM D.1)), μ.2) (by omega) (by rw [FU_eq]; omega) hr ((s0 18 (by decide)).trans c3) c4
  have hr1 : μ1.2 = RFt P Q := e2.1.trans hr
  obtain ⟨μ2, d1, d2, d3, d4⟩ := tr_items (P := P) (Q := Q) hN5 (hN D.1) 0 FU μ1 (by omega) (by rw [FU_eq]; omega) hr1 (by rw [e2.2 107 (by decide)]; rfl)
  have hr2 := d2.1.trans hr1
  obtain ⟨μ3, f1, f2, f3, f4, f5, f6⟩ := tr_votes (P := P) (Q := Q) hM7 35 0 FU μ2 (by omega) (by rw [FU_eq]; omega) hr2 (by rw [d2.2 107 (by decide), e2.2 107 (by decide)]; rfl)
  have b107 : μ3.1 107 = up2 (up2 (up2 (up2 μ.1 107 0 (nI (hC D.1))) 107 1 (nI (hR D.1))) 107 3 (nI (hN D.1))) 107 7 (nI (hM D.1)) 107 := by rw [f2.2 107 (by decide), d2.2 107 (by decide), e2.2 107 (by decide)]
  have r1 : ∀ a, 113 ≤ a → μ1.1 a = μ.1 a := fun a ha => (e2.2 a (by omega)).trans (g0.2 a (by omega))
  have r2 : ∀ a, 113 ≤ a → μ2.1 a = μ.1 a := fun a ha => (d2.2 a (by omega)).trans (r1 a ha)
  refine ⟨μ3, ?_, ((g0.wk (fun a q => by omega)).tr (e2.wk (fun a q => by omega))).tr ((d2.wk (fun a q => by omega)).tr (f2.wk (fun a q => by omega))), fun s hs => by rw [b107]; exact s0 s hs, ?_, ?_⟩
  · unfold f_X10_takeRead
    rw [rd hr (rt_107_16 P Q), bR_s, ckb114, gd_t, show (0 : Int32).toNatClampNeg = 0 from rfl, c1, bM_s]
    dsimp only
    rw [rd hr (rt_107_16 P Q), bR_s, show ckb (1 : Int32) (ln 114) = true from rfl, gd_t, show (1 : Int32).toNatClampNeg = 1 from rfl, up2_na (show (114 : Nat) ≠ 107 by decide), c2, bM_s, bM_s, bM_s]
    dsimp only
    have s19 : up2 (up2 μ.1 107 0 (nI (hC D.1))) 107 1 (nI (hR D.1)) 107 19 = nI (hN D.1) := c5
    have s23 : up2 (up2 (up2 μ.1 107 0 (nI (hC D.1))) 107 1 (nI (hR D.1))) 107 3 (nI (hN D.1)) 107 23 = nI (hM D.1) := c7
    rw [s19, s23]
    exact (e1.trans d1).trans f1
  · unfold MH
    rw [b107]
    refine ⟨rfl, rfl, fun k hk => ?_, rfl, rfl, fun i hi => ?_⟩
    · rw [f2.2 108 (by decide), d2.2 108 (by decide)]
      exact e3 k (Nat.zero_le _) hk
    · have h := d3 i (Nat.zero_le _) hi
      rw [f2.2 109 (by decide), f2.2 110 (by decide), f2.2 111 (by decide), h.1, h.2.1, h.2.2, r1 116 (by decide), r1 117 (by decide), r1 118 (by decide)]
      exact c6 i hi
  · refine ⟨fun p hp i hi => ?_, f5, f6⟩
    have hp : p < hM D.1 := hp
    rw [Nat.zero_add, f3 (5 * p + i) (Nat.zero_le _) (by omega) (by omega), r2 119 (by decide), bD_p (by omega)]
    exact c8 p hp i hi
