/-! the reference's clauses -/
theorem j64_m {μ : Mm} {k : Nat} (h : μ.1 107 13 = nI k) : f_X10_takeClause_j64 μ 107 = some (1, (up2 μ.1 107 12 (nI k), μ.2)) := by
  unfold f_X10_takeClause_j64 f_X10_fails
  rw [h, bM_s, bC_s]
theorem j150_1 {μ : Mm} {k : Nat} (x : Int32) (h : μ.1 107 13 = nI k) : f_X10_takeClause_j150 μ 107 x 1 = some (3, (up2 μ.1 107 12 (nI k), μ.2)) := by
  unfold f_X10_takeClause_j150 f_X10_fails
  rw [if_neg (by decide), h, bM_s, bC_s]
theorem ckb114 : ckb (0 : Int32) (ln 114) = true := rfl
theorem j46_m {P Q : Nat} {μ : Mm} {D : Dr} {k : Nat} {x : Int32} (hr : μ.2 = RFt P Q) (c : MD μ D) (h : μ.1 107 13 = nI k) (hC5 : hC D.1 ≤ 5) (hx : (0 : Int32) < x) : f_X10_takeClause_j46 μ 107 x = if hC D.1 = 0 then some (1, (up2 μ.1 107 12 (nI k), μ.2)) else f_X10_takeClause_j74 μ 107 x := by
  unfold f_X10_takeClause_j46
  have h1 : ¬ x < 0 := fun w => by rw [Int32.lt_iff_toInt_lt] at hx w; omega
  have h2 : ¬ x ≤ 0 := fun w => by rw [Int32.lt_iff_toInt_lt] at hx; rw [Int32.le_iff_toInt_le] at w; omega
  rw [if_neg h1, if_neg h2, rd hr (rt_107_16 P Q), bR_s, ckb114, gd_t, show (0 : Int32).toNatClampNeg = 0 from rfl, c.1, j64_m h]
  by_cases q : hC D.1 = 0
  · rw [if_pos q, if_pos (show nI (hC D.1) = 0 by rw [q]; rfl)]
  · rw [if_neg q, if_neg (nI_ne0 (by omega) (by omega))]
theorem clause_m {P Q k : Nat} {T : Tx} {μ : Mm} {D : Dr} (hr : μ.2 = RFt P Q) (g : GM μ T k) (c : MD μ D) (d : DOK D) (hk : k < T.1) (hb : lc T k ≠ 32) :
    ∃ x μ', f_X10_takeClause μ 107 = some (x, μ') ∧ RdA μ μ' ∧ OutM μ' T x (clF T D k) := by
  have hC5 := d.1
  have h20 := d.2.2.2.2.1
  have hN5 := d.2.2.1
  have hM7 := d.2.2.2.1
  obtain ⟨μ1, e1, e2, e3⟩ := g.hr hr
  rw [sk_id hb] at e1 e2 e3
  have hr1 := e2.1.trans hr
  have c1 : MD μ1 D := c.nm e2.nm
  have h13 := e3.2.2.1
  have r1 : RdA μ μ1 := e2.nm.rd
  have g2 : GM (up2 μ1.1 107 13 (nI (k + 1)), μ1.2) T (k + 1) := ⟨e3.1.cg rfl rfl, e3.2.1, rfl, hk⟩
  have c2 : MD (up2 μ1.1 107 13 (nI (k + 1)), μ1.2) D := MX.cg c1 (fun a h1 h2 => up2_ne (by omega)) (fun s hs => up2_nk (by omega))
  have r2 : RdA μ (up2 μ1.1 107 13 (nI (k + 1)), μ1.2) := r1.tr (RdA.us (Or.inl (by decide)))
  have hbad : ∀ fl : Nat, 0 < fl ∧ fl < 5 → ∃ x μ', some (nI fl, (up2 μ1.1 107 12 (nI k), μ1.2)) = some (x, μ') ∧ RdA μ μ' ∧ OutM μ' T x (Sum.inl (fl, k)) := fun fl hfl => ⟨nI fl, _, rfl, r1.tr (RdA.us (Or.inl (by decide))), show Bd _ (nI fl) (fl, k) from ⟨hfl, rfl, rfl⟩⟩
  have hgo : ∀ x : Int32, f_X10_takeClause_j150 μ1 107 x 0 = (if x = 0 then (bC (f_X10_takeSize (up2 μ1.1 107 13 (nI (k + 1)), μ1.2) 107) (fun r16 μ15 => f_X10_takeClause_j214 μ15 107 r16)) else (if x = (1 : Int32) then (bC (f_X10_takeGround (up2 μ1.1 107 13 (nI (k + 1)), μ1.2) 107) (fun r13 μ12 => f_X10_takeClause_j214 μ12 107 r13)) else (if x = (2 : Int32) then (bC (f_X10_takeItem (up2 μ1.1 107 13 (nI (k + 1)), μ1.2) 107) (fun r10 μ9 => f_X10_takeClause_j214 μ9 107 r10)) else (bC (f_X10_takePerson (up2 μ1.1 107 13 (nI (k + 1)), μ1.2) 107) (fun r7 μ6 => f_X10_takeClause_j214 μ6 107 r7))))) := by
    intro x
    unfold f_X10_takeClause_j150
    rw [if_pos rfl, h13, nI_p1, bM_s]
  have fin : ∀ {y : Int32} {μ3 : Mm} {r : Sum (Nat × Nat) (Dr × Nat)}, RdA (up2 μ1.1 107 13 (nI (k + 1)), μ1.2) μ3 → OutM μ3 T y r → ∃ x μ', f_X10_takeClause_j214 μ3 107 y = some (x, μ') ∧ RdA μ μ' ∧ OutM μ' T x (cls T r) := by
    intro y μ3 r a o
    obtain ⟨x, μ4, l1, l2, l3⟩ := cls_m (P := P) (Q := Q) (a.1.trans hr1) o
    exact ⟨x, μ4, l1, (r2.tr a).tr l2, l3⟩
  unfold f_X10_takeClause clF
  rw [e1, bC_s]
  by_cases w4 : lc T k = 104
  · rw [if_pos w4, if_pos w4, if_pos w4]
    unfold f_X10_takeClause_j46 f_X10_takeClause_j74
    rw [if_neg (by decide), if_pos (by decide), if_pos rfl, rd hr1 (rt_107_16 P Q), bR_s, ckb114, gd_t, show (0 : Int32).toNatClampNeg = 0 from rfl, c1.1, j150_1 _ h13, hgo]
    by_cases q : hC D.1 = 0
    · rw [if_pos q, if_pos (show nI (hC D.1) ≤ 0 by rw [q]; decide), if_pos rfl]
      obtain ⟨y, μ3, l1, l2, l3⟩ := size_m (P := P) (Q := Q) (μ := (up2 μ1.1 107 13 (nI (k + 1)), μ1.2)) hr1 g2 c2
      rw [l1, bC_s]
      exact fin l2 l3
    · rw [if_neg q, if_neg (nI_nle (by omega) (by omega))]
      exact hbad 3 (by decide)
  rw [if_neg w4, if_neg w4, if_neg w4]
  by_cases w3 : lc T k = 103
  · rw [if_pos w3, if_pos w3, j46_m hr1 c1 h13 hC5 (by decide)]
    by_cases q : hC D.1 = 0
    · rw [if_pos q, if_pos q]
      exact hbad 1 (by decide)
    · rw [if_neg q, if_neg q]
      unfold f_X10_takeClause_j74
      rw [if_neg (by decide), if_pos rfl, c1.2.2.1, j150_1 _ h13, hgo]
      by_cases z : 0 < D.1 0 4
      · rw [if_pos z, if_neg (nI_nle z (by omega))]
        exact hbad 3 (by decide)
      · rw [if_neg z, if_pos (show nI (D.1 0 4) ≤ 0 by rw [show D.1 0 4 = 0 by omega]; decide), if_neg (by decide), if_pos rfl]
        obtain ⟨y, μ3, l1, l2, l3⟩ := ground_m (P := P) (Q := Q) (μ := (up2 μ1.1 107 13 (nI (k + 1)), μ1.2)) hr1 g2 c2 (by omega)
        exact ⟨y, μ3, l1, r2.tr l2, l3⟩
  rw [if_neg w3, if_neg w3]
  by_cases w5 : lc T k = 105
  · rw [if_pos w5, if_pos w5, j46_m hr1 c1 h13 hC5 (by decide)]
    by_cases q : hC D.1 = 0
    · rw [if_pos q, if_pos q]
      exact hbad 1 (by decide)
    · rw [if_neg q, if_neg q]
      unfold f_X10_takeClause_j74
      rw [if_neg (by decide), if_neg (by decide), if_pos rfl, c1.2.2.2.2.1, j150_1 _ h13, hgo]
      by_cases z : 5 ≤ hN D.1
      · rw [if_pos z, if_pos (show nI (hN D.1) = (5 : Int32) by rw [show hN D.1 = 5 by omega]; rfl)]
        exact hbad 3 (by decide)
      · rw [if_neg z, if_neg (show ¬ nI (hN D.1) = (5 : Int32) from nI_ne (b := 5) (by omega) (by omega) (by omega)), if_neg (by decide), if_neg (by decide), if_pos rfl]
        obtain ⟨y, μ3, l1, l2, l3⟩ := item_m (P := P) (Q := Q) (μ := (up2 μ1.1 107 13 (nI (k + 1)), μ1.2)) hr1 g2 c2 d (by omega) (by omega)
        rw [l1, bC_s]
        exact fin l2 l3
  rw [if_neg w5, if_neg w5]
  by_cases w12 : lc T k = 112
  · rw [if_pos w12, if_pos w12, j46_m hr1 c1 h13 hC5 (by decide)]
    by_cases q : hC D.1 = 0
    · rw [if_pos q, if_pos q]
      exact hbad 1 (by decide)
    · rw [if_neg q, if_neg q]
      unfold f_X10_takeClause_j74
      rw [if_neg (by decide), if_neg (by decide), if_neg (by decide), c1.2.2.2.2.2.2.1, j150_1 _ h13, hgo]
      by_cases z : 7 ≤ hM D.1
      · rw [if_pos z, if_pos (show nI (hM D.1) = (7 : Int32) by rw [show hM D.1 = 7 by omega]; rfl)]
        exact hbad 3 (by decide)
      · rw [if_neg z, if_neg (show ¬ nI (hM D.1) = (7 : Int32) from nI_ne (b := 7) (by omega) (by omega) (by omega)), if_neg (by decide), if_neg (by decide), if_neg (by decide)]
        obtain ⟨y, μ3, l1, l2, l3⟩ := person_m (P := P) (Q := Q) (μ := (up2 μ1.1 107 13 (nI (k + 1)), μ1.2)) hr1 g2 c2 (by omega)
        rw [l1, bC_s]
        exact fin l2 l3
  rw [if_neg w12, if_neg w12]
  unfold f_X10_takeClause_j46
  rw [if_pos (by decide), j64_m h13]
  simp only [ite_self]
  exact hbad 1 (by decide)
/-! all clauses -/
def EndM (μ : Mm) (x : Int32) (r : Sum (Nat × Nat) Dr) : Prop := match r with
  | Sum.inl e => Bd μ x e
  | Sum.inr D => x = 0 ∧ μ.1 107 12 = -1 ∧ MD μ D
theorem lc_neg {T : Tx} {k : Nat} (hT : ∀ j, j < T.1 → T.2 j ≤ 255) : lc T k < 0 ↔ T.1 ≤ k := by
  by_cases q : k < T.1
  · have := hT k q
    rw [lc_in q]
    exact ⟨fun w => absurd w (nI_pos (by omega)), fun w => absurd q (by omega)⟩
  · rw [lc_end (by omega)]
    exact ⟨fun _ => by omega, fun _ => by decide⟩
theorem house_L {P Q : Nat} {T : Tx} : ∀ (m k f : Nat) (D : Dr) (μ : Mm), m + 1 < f → μ.2 = RFt P Q → GM μ T k → MD μ D → DOK D → T.1 ≤ sk T k + m →
    ∃ x μ', f_X10_house_L41 f μ 107 0 = f_X10_house_j60 μ' 107 x ∧ RdA μ μ' ∧ EndM μ' x (hsF T m D (sk T k)) := by
  intro m
  induction m with
  | zero =>
    intro k f D μ hf hr g c d hm
    obtain ⟨f, rfl⟩ : ∃ g, f = g + 1 := ⟨f - 1, by omega⟩
    obtain ⟨μ1, e1, e2, e3⟩ := g.hr hr
    refine ⟨0, μ1, ?_, e2.nm.rd, show (0 : Int32) = 0 ∧ _ ∧ MD μ1 D from ⟨rfl, e3.2.1, c.nm e2.nm⟩⟩
    show f_X10_house_L41b _ _ _ _ = _
    unfold f_X10_house_L41b
    rw [if_pos rfl, e1, bC_s, if_pos ((lc_neg g.1.2.1).mpr (by omega))]
  | succ m ih =>
    intro k f D μ hf hr g c d hm
    obtain ⟨f, rfl⟩ : ∃ g, f = g + 1 := ⟨f - 1, by omega⟩
    obtain ⟨μ1, e1, e2, e3⟩ := g.hr hr
    have hr1 := e2.1.trans hr
    show ∃ x μ', f_X10_house_L41b _ _ _ _ = _ ∧ RdA μ μ' ∧ EndM μ' x (if T.1 ≤ sk T k then Sum.inr D else bnd (clF T D (sk T k)) (fun x => hsF T m x.1 (sk T x.2)))
    unfold f_X10_house_L41b
    by_cases q : T.1 ≤ sk T k
    · refine ⟨0, μ1, ?_, e2.nm.rd, ?_⟩
      · rw [if_pos rfl, e1, bC_s, if_pos ((lc_neg g.1.2.1).mpr q)]
      · rw [if_pos q]
        exact ⟨rfl, e3.2.1, c.nm e2.nm⟩
    · obtain ⟨x2, μ2, d1, d2, d3⟩ := clause_m hr1 e3 (c.nm e2.nm) d (by omega) (sk_nb T k)
      have hr2 := d2.1.trans hr1
      rw [if_pos rfl, e1, bC_s, if_neg (fun w => q ((lc_neg g.1.2.1).mp w)), d1, bC_s, if_neg q]
      rcases h : clF T D (sk T k) with e | ⟨D1, k1⟩
      · rw [h] at d3
        have d3 : Bd μ2 x2 e := d3
        rw [bnd_l]
        refine ⟨x2, μ2, ?_, e2.nm.rd.tr d2, d3⟩
        obtain ⟨f, rfl⟩ : ∃ g, f = g + 1 := ⟨f - 1, by omega⟩
        show f_X10_house_L41b _ _ _ _ = _
        unfold f_X10_house_L41b
        rw [if_neg d3.ne]
      · rw [h] at d3
        obtain ⟨o1, o2, o3⟩ := d3
        have o2 : GM μ2 T k1 := o2
        have o3 : MD μ2 D1 := o3
        have hi := clF_i h d
        have hs := sk_ge T k1
        obtain ⟨x, μ', l1, l2, l3⟩ := ih k1 f D1 μ2 (by omega) hr2 o2 o3 hi.1 (by omega)
        rw [bnd_r, o1]
        exact ⟨x, μ', l1, (e2.nm.rd.tr d2).tr l2, l3⟩
