/-! the reference's items and persons -/
theorem j69_b {μ : Mm} {x : Int32} {e : Nat × Nat} (v w : Int32) (b : Bd μ x e) : f_X10_takeItem_j69 μ 107 v w x = some (x, μ) := by
  unfold f_X10_takeItem_j69 f_X10_takeItem_j124
  rw [if_neg b.ne, if_neg b.nle]
theorem item_m {P Q k : Nat} {T : Tx} {μ : Mm} {D : Dr} (hr : μ.2 = RFt P Q) (g : GM μ T k) (c : MD μ D) (d : DOK D) (h0 : 0 < hC D.1) (hN5 : hN D.1 < 5) :
    ∃ x μ', f_X10_takeItem μ 107 = some (x, μ') ∧ RdA μ μ' ∧ OutM μ' T x (itF T D k) := by
  have hz := hZ_20 d
  have hz0 : 0 < hZ D.1 := Nat.mul_pos h0 (d.2.2.2.2.2.2.1 h0)
  have hC5 := d.1
  obtain ⟨c1', c2', c3', c4', c5', c6', c7', c8'⟩ := c
  have s : f_X10_takeItem μ 107 = bC (f_X10_into (up2 μ.1 107 19 (nI (hN D.1 + 1)), μ.2) 107 116 (nI (hN D.1)) 0 (nI (hZ D.1 - 1))) (fun r11 μ10 => if r11 ≤ 0 then (bR (μ10.2 107 21) (fun b14 => bC (f_X10_into μ10 107 b14 (nI (hN D.1)) 0 (nI (hZ D.1 - 1))) (fun r16 μ15 => f_X10_takeItem_j69 μ15 107 (nI (hN D.1)) (nI (hC D.1)) r16))) else (f_X10_takeItem_j69 μ10 107 (nI (hN D.1)) (nI (hC D.1)) r11)) := by
    unfold f_X10_takeItem
    rw [c5', bI_s, nI_p1, bM_s]
    dsimp only
    rw [rd hr (rt_107_16 P Q), bR_s, show ckb (0 : Int32) (ln 114) = true from rfl, gd_t, bI_s, bR_s, show ckb (1 : Int32) (ln 114) = true from rfl, gd_t, bI_s, show (0 : Int32).toNatClampNeg = 0 from rfl, show (1 : Int32).toNatClampNeg = 1 from rfl, up2_na (show (114 : Nat) ≠ 107 by decide), up2_na (show (114 : Nat) ≠ 107 by decide), c1', c2', pk_mul, rd hr (rt_107_20 P Q), bR_s, show nI (hC D.1 * hR D.1) - (1 : Int32) = nI (hZ D.1 - 1) from nI_zm d h0]
  have g2 : GM (up2 μ.1 107 19 (nI (hN D.1 + 1)), μ.2) T k := g.cg rfl (fun s hs => up2_nk (by omega))
  have r0 : RdA μ (up2 μ.1 107 19 (nI (hN D.1 + 1)), μ.2) := RdA.us (Or.inr (Or.inr (Or.inl rfl)))
  obtain ⟨x1, μ1, e1, e2, e3⟩ := into_eq (P := P) (Q := Q) (a := 116) (i := hN D.1) (L := 5) (lo := 0) (hi := hZ D.1 - 1) (loI := 0) (hiI := nI (hZ D.1 - 1)) rfl rfl (by decide) (by omega) (show (up2 μ.1 107 19 (nI (hN D.1 + 1)), μ.2).2 = RFt P Q from hr) g2 (by decide) rfl hN5 (by decide)
  have hr1 : μ1.2 = RFt P Q := e2.1.trans hr
  have r1 : RdA μ μ1 := r0.tr (e2.rd (by decide))
  unfold itF
  rw [s, e1, bC_s]
  rcases h1 : rdN T 0 (hZ D.1 - 1) k with e | ⟨va, k1⟩
  · rw [h1] at e3
    have e3 : Bd μ1 x1 e := e3
    rw [if_neg e3.nle, j69_b _ _ e3, bnd_l]
    exact ⟨x1, μ1, rfl, r1, e3⟩
  rw [h1] at e3
  obtain ⟨f1, f2, f3, f4⟩ := e3
  have f2 : GM μ1 T k1 := f2
  have f4 : μ1.1 116 (hN D.1) = nI va := f4
  obtain ⟨x2, μ2, d1, d2, d3⟩ := into_eq (P := P) (Q := Q) (a := 117) (i := hN D.1) (L := 5) (lo := 0) (hi := hZ D.1 - 1) (loI := 0) (hiI := nI (hZ D.1 - 1)) rfl rfl (by decide) (by omega) hr1 f2 (by decide) rfl hN5 (by decide)
  have hr2 : μ2.2 = RFt P Q := d2.1.trans hr1
  have r2 : RdA μ μ2 := r1.tr (d2.rd (by decide))
  rw [if_pos (show x1 ≤ 0 by rw [f1]; decide), rd hr1 (rt_107_21 P Q), bR_s, d1, bC_s, bnd_r]
  dsimp only
  rcases h2 : rdN T 0 (hZ D.1 - 1) k1 with e | ⟨vb, k2⟩
  · rw [h2] at d3
    have d3 : Bd μ2 x2 e := d3
    rw [j69_b _ _ d3, bnd_l]
    exact ⟨x2, μ2, rfl, r2, d3⟩
  rw [h2] at d3
  obtain ⟨l1, l2, l3, l4⟩ := d3
  have l2 : GM μ2 T k2 := l2
  have l4 : μ2.1 117 (hN D.1) = nI vb := l4
  have h116 : μ2.1 116 (hN D.1) = nI va := by rw [d2.2.1 116 (by decide) (by decide)]; exact f4
  have ha := rdN_v h1
  have hb := rdN_v h2
  have bad : f_X10_takeItem_j114 μ2 107 = some (4, (up2 μ2.1 107 12 (nI (sk T k1)), μ2.2)) := by
    unfold f_X10_takeItem_j114 f_X10_fails
    rw [l3, bM_s, bC_s]
  have hout : ∃ x μ', some ((4 : Int32), (up2 μ2.1 107 12 (nI (sk T k1)), μ2.2)) = some (x, μ') ∧ RdA μ μ' ∧ OutM μ' T x (Sum.inl (4, sk T k1)) := ⟨4, _, rfl, r2.tr (RdA.us (Or.inl (by decide))), show Bd _ 4 (4, sk T k1) from ⟨show 0 < 4 ∧ 4 < 5 by decide, rfl, rfl⟩⟩
  rw [bnd_r]
  dsimp only
  unfold f_X10_takeItem_j69
  rw [if_pos l1, rd hr2 (rt_107_21 P Q), bR_s, ckb_n (show hN D.1 < ln 117 from hN5) (by decide), gd_t, ck0_n h0 (by omega), gd_t, rd hr2 (rt_107_20 P Q), bR_s, ckb_n (show hN D.1 < ln 116 from hN5) (by decide), gd_t, gd_t, nI_clamp (by omega), l4, h116, pk_div (by omega) h0 (by omega), pk_div (by omega) h0 (by omega), bad]
  by_cases q1 : vb / hC D.1 < va / hC D.1
  · rw [if_pos (nI_lt q1 (by have := Nat.div_le_self va (hC D.1); omega)), if_pos (show bhd (hC D.1) va vb = true from decide_eq_true (Or.inl q1))]
    exact hout
  rw [if_neg (nI_nlt (by omega) (by have := Nat.div_le_self vb (hC D.1); omega)), bR_s, ckb_n (show hN D.1 < ln 117 from hN5) (by decide), gd_t, gd_t, bR_s, ckb_n (show hN D.1 < ln 116 from hN5) (by decide), gd_t, gd_t, l4, h116]
  have ra : nI va - nI (va / hC D.1) * nI (hC D.1) = nI (va % hC D.1) := by
    rw [← pk_div (show va < 2 ^ 31 by omega) h0 (by omega)]; exact pk_rem (by omega) h0 (by omega)
  have rb : nI vb - nI (vb / hC D.1) * nI (hC D.1) = nI (vb % hC D.1) := by
    rw [← pk_div (show vb < 2 ^ 31 by omega) h0 (by omega)]; exact pk_rem (by omega) h0 (by omega)
  have ra' : nI va - nI va / nI (hC D.1) * nI (hC D.1) = nI (va % hC D.1) := pk_rem (by omega) h0 (by omega)
  have rb' : nI vb - nI vb / nI (hC D.1) * nI (hC D.1) = nI (vb % hC D.1) := pk_rem (by omega) h0 (by omega)
  simp only [ra, rb, ra', rb']
  have hma := Nat.mod_lt va h0
  have hmb := Nat.mod_lt vb h0
  by_cases q2 : vb % hC D.1 < va % hC D.1
  · rw [if_neg (nI_ge q2 (by omega)), if_pos (show bhd (hC D.1) va vb = true from decide_eq_true (Or.inr q2))]
    exact hout
  rw [if_pos (nI_le (by omega) (by omega)), if_neg (show ¬ bhd (hC D.1) va vb = true from fun w => (of_decide_eq_true w).elim q1 q2)]
  unfold f_X10_takeItem_j124
  obtain ⟨x3, μ3, m1, m2, m3⟩ := into_eq (P := P) (Q := Q) (a := 118) (i := hN D.1) (L := 5) (lo := 0) (hi := 9) (loI := 0) (hiI := 9) rfl rfl (by decide) (by decide) hr2 l2 (by decide) rfl hN5 (by decide)
  have r3 : RdA μ μ3 := r2.tr (m2.rd (by decide))
  rw [if_pos (show x2 ≤ 0 by rw [l1]; decide), rd hr2 (rt_107_22 P Q), bR_s, m1, bC_s]
  rcases h3 : rdN T 0 9 k2 with e | ⟨vl, k3⟩
  · rw [h3] at m3
    rw [bnd_l]
    exact ⟨x3, μ3, rfl, r3, m3⟩
  rw [h3] at m3
  obtain ⟨n1, n2, n3, n4⟩ := m3
  have n4 : μ3.1 118 (hN D.1) = nI vl := n4
  rw [bnd_r]
  refine ⟨x3, μ3, rfl, r3, n1, n2, ?_⟩
  have hs : ∀ s, ¬ (12 ≤ s ∧ s ≤ 15) → μ3.1 107 s = up2 μ.1 107 19 (nI (hN D.1 + 1)) 107 s := fun s hs => (m2.2.2.2 s hs).trans ((d2.2.2.2 s hs).trans (e2.2.2.2 s hs))
  have hb' : ∀ b, b ≠ 107 → b ≠ 116 → b ≠ 117 → b ≠ 118 → μ3.1 b = μ.1 b := fun b h1 h2 h3 h4 => (m2.2.1 b h1 h4).trans ((d2.2.1 b h1 h3).trans ((e2.2.1 b h1 h2).trans (up2_ne h1)))
  refine ⟨?_, ?_, ?_, fun j hj => ?_, ?_, fun i hi => ?_, ?_, fun q hq i hi => ?_⟩
  · rw [hb' 114 (by decide) (by decide) (by decide) (by decide)]; exact c1'
  · rw [hb' 114 (by decide) (by decide) (by decide) (by decide)]; exact c2'
  · rw [hs 18 (by decide), up2_nk (by decide)]; exact c3'
  · rw [hb' 115 (by decide) (by decide) (by decide) (by decide)]; exact c4' j hj
  · rw [hs 19 (by decide), up2_at]; rfl
  · have hi : i < hN D.1 + 1 := hi
    show μ3.1 116 i = nI ((dIt D va vb vl).1 2 i) ∧ μ3.1 117 i = nI ((dIt D va vb vl).1 3 i) ∧ μ3.1 118 i = nI ((dIt D va vb vl).1 4 i)
    rw [dIt_2, dIt_3, dIt_4, m2.2.1 116 (by decide) (by decide), m2.2.1 117 (by decide) (by decide)]
    by_cases x : i = hN D.1
    · rw [if_pos x, if_pos x, if_pos x, x]
      exact ⟨h116, l4, n4⟩
    · rw [if_neg x, if_neg x, if_neg x, m2.2.2.1 i x, d2.2.2.1 i x, d2.2.1 116 (by decide) (by decide), d2.2.1 118 (by decide) (by decide), e2.2.2.1 i x, e2.2.1 117 (by decide) (by decide), e2.2.1 118 (by decide) (by decide)]
      exact c6' i (by omega)
  · rw [hs 23 (by decide), up2_nk (by decide)]; exact c7'
  · rw [hb' 119 (by decide) (by decide) (by decide) (by decide)]; exact c8' q hq i hi
/-! persons -/
theorem okd_nv {T : Tx} {a : Nat} (h : okd T a 5 = true) : nvF T a 5 ≤ 22222 := by
  have h0 := okd_i 5 h 0 (by decide)
  have h1 := okd_i 5 h 1 (by decide)
  have h2 := okd_i 5 h 2 (by decide)
  have h3 := okd_i 5 h 3 (by decide)
  have h4 := okd_i 5 h 4 (by decide)
  show 10 * (10 * (10 * (10 * (10 * 0 + dgt T (a + 0)) + dgt T (a + 1)) + dgt T (a + 2)) + dgt T (a + 3)) + dgt T (a + 4) ≤ 22222
  omega
theorem pe_l {T : Tx} {D : Dr} {k : Nat} {e : Nat × Nat} (h : rdN T 0 22222 k = Sum.inl e) : peF T D k = Sum.inl e := by
  unfold rdN at h
  unfold peF
  by_cases q1 : fe T (sk T k) = sk T k
  · rw [if_pos q1] at h ⊢
    cases h
    rfl
  · rw [if_neg q1] at h ⊢
    by_cases q2 : 5 < fe T (sk T k) - sk T k ∨ nvF T (sk T k) (fe T (sk T k) - sk T k) < 0 ∨ 22222 < nvF T (sk T k) (fe T (sk T k) - sk T k)
    · rw [if_pos q2] at h
      cases h
      rw [if_neg]
      intro w
      have := okd_nv w.2
      rw [w.1] at q2
      omega
    · rw [if_neg q2] at h
      cases h
theorem pe_r {T : Tx} {D : Dr} {k v e : Nat} (h : rdN T 0 22222 k = Sum.inr (v, e)) : e = fe T (sk T k) ∧ fe T (sk T k) - sk T k ≤ 5 ∧ peF T D k = (if fe T (sk T k) - sk T k = 5 ∧ okd T (sk T k) 5 = true then Sum.inr (dPe D T (sk T k), fe T (sk T k)) else Sum.inl (2, sk T k)) := by
  unfold rdN at h
  unfold peF
  by_cases q1 : fe T (sk T k) = sk T k
  · rw [if_pos q1] at h
    cases h
  · rw [if_neg q1] at h ⊢
    by_cases q2 : 5 < fe T (sk T k) - sk T k ∨ nvF T (sk T k) (fe T (sk T k) - sk T k) < 0 ∨ 22222 < nvF T (sk T k) (fe T (sk T k) - sk T k)
    · rw [if_pos q2] at h
      cases h
    · rw [if_neg q2] at h
      cases h
      exact ⟨rfl, by omega, rfl⟩
/-- only the slot 12 and the person's own places changed -/
def PrA (μ μ' : Mm) (p : Nat) : Prop := μ'.2 = μ.2 ∧ (∀ b, b ≠ 107 → b ≠ 119 → μ'.1 b = μ.1 b) ∧ (∀ j, j < 5 * p → μ'.1 119 j = μ.1 119 j) ∧ ∀ s, s ≠ 12 → μ'.1 107 s = μ.1 107 s
theorem PrA.rf {μ : Mm} {p : Nat} : PrA μ μ p := ⟨rfl, fun _ _ _ => rfl, fun _ _ => rfl, fun _ _ => rfl⟩
theorem PrA.tr {μ μ1 μ2 : Mm} {p : Nat} (h : PrA μ μ1 p) (g : PrA μ1 μ2 p) : PrA μ μ2 p := ⟨g.1.trans h.1, fun a h1 h2 => (g.2.1 a h1 h2).trans (h.2.1 a h1 h2), fun j hj => (g.2.2.1 j hj).trans (h.2.2.1 j hj), fun s hs => (g.2.2.2 s hs).trans (h.2.2.2 s hs)⟩
theorem PrA.rd {μ μ' : Mm} {p : Nat} (w : PrA μ μ' p) : RdA μ μ' := ⟨w.1, fun b h1 h2 => w.2.1 b h1 (fun q => h2 (by rw [q]; decide)), fun s hs => w.2.2.2 s (fun q => hs (Or.inl (by rw [q]; decide)))⟩
theorem j110_f {μ : Mm} {a : Nat} (h15 : μ.1 107 15 = nI a) : f_X10_takePerson_j110 μ 107 0 = some (2, (up2 μ.1 107 12 (nI a), μ.2)) := by
  unfold f_X10_takePerson_j110 f_X10_fails
  rw [if_pos rfl, h15, bM_s, bC_s]
theorem person_L {P Q e a p : Nat} {T : Tx} (hp : p < 7) (hd : ∀ i, i < 5 → isF T (a + i) = true) : ∀ (m i f : Nat) (μ : Mm), μ.2 = RFt P Q → GM μ T e → μ.1 107 15 = nI a → (∀ j, j < i → μ.1 119 (5 * p + j) = nI (dgt T (a + j))) → okd T a i = true → i + m = 5 → m < f →
    ∃ x μ', f_X10_takePerson_L52 f μ 107 (nI p) 1 (nI i) = some (x, μ') ∧ PrA μ μ' p ∧ (if okd T a 5 = true then x = 0 ∧ GM μ' T e ∧ ∀ j, j < 5 → μ'.1 119 (5 * p + j) = nI (dgt T (a + j)) else Bd μ' x (2, a)) := by
  intro m
  induction m with
  | zero =>
    intro i f μ hr g h15 hv hk hm hf
    obtain ⟨f, rfl⟩ := fs1 hf
    have hi : i = 5 := by omega
    subst hi
    refine ⟨0, μ, ?_, PrA.rf, ?_⟩
    · show f_X10_takePerson_L52b _ _ _ _ _ _ = _
      unfold f_X10_takePerson_L52b f_X10_takePerson_j110
      rw [if_pos (by decide), if_neg (by decide)]
    · rw [if_pos hk]
      exact ⟨rfl, g, hv⟩
  | succ m ih =>
    intro i f μ hr g h15 hv hk hm hf
    obtain ⟨f, rfl⟩ := fs1 hf
    have h240 := g.1.1
    have hf1 := of_decide_eq_true (hd i (by omega))
    have hd9 := dgt_9 (hd i (by omega))
    have hl : μ.1 113 (a + i) - (48 : Int32) = nI (dgt T (a + i)) := by
      rw [g.1.2.2.2 (a + i) hf1.1]
      show nI (T.2 (a + i)) - nI 48 = _
      rw [pk_sub hf1.2.1]
      rfl
    have p1 : PrA μ (up2 μ.1 119 (5 * p + i) (nI (dgt T (a + i))), μ.2) p := ⟨rfl, fun b h1 h2 => up2_ne h2, fun j hj => up2_nk (by omega), fun s _ => rfl⟩
    have g1 : GM (up2 μ.1 119 (5 * p + i) (nI (dgt T (a + i))), μ.2) T e := g.cg rfl (fun s _ => rfl)
    have hok : okd T a (i + 1) = (okd T a i && decide (dgt T (a + i) ≤ 2)) := rfl
    show ∃ x μ', f_X10_takePerson_L52b _ _ _ _ _ _ = _ ∧ _
    unfold f_X10_takePerson_L52b f_X10_takePerson_j103
    rw [if_neg (show ¬ (5 : Int32) ≤ nI i from nI_ge (b := 5) (by omega) (by omega)), if_neg (by decide), rd hr (rt_107_10 P Q), bR_s, h15, nI_add, ckb_n (show a + i < ln 113 by show a + i < 240; omega) (by decide), gd_t, nI_clamp (by omega), hl, bI_s, rd hr (rt_107_24 P Q), bR_s, nI_5, ckb_n (show 5 * p + i < ln 119 by show _ < 35; omega) (by decide), gd_t, nI_clamp (by omega), bM_s, nI_p1]
    by_cases q : dgt T (a + i) ≤ 2
    · rw [if_neg (show ¬ (3 : Int32) ≤ nI (dgt T (a + i)) from nI_ge (b := 3) (by omega) (by decide))]
      obtain ⟨x, μ', l1, l2, l3⟩ := ih (i + 1) f (up2 μ.1 119 (5 * p + i) (nI (dgt T (a + i))), μ.2) hr g1 h15 (fun j hj => by
        show up2 μ.1 119 (5 * p + i) (nI (dgt T (a + i))) 119 (5 * p + j) = _
        by_cases z : j = i
        · rw [z, up2_at]
        · rw [up2_nk (by omega)]
          exact hv j (by omega)) (by rw [hok, hk, decide_eq_true q]; rfl) (by omega) (by omega)
      exact ⟨x, μ', l1, p1.tr l2, l3⟩
    · rw [if_pos (show (3 : Int32) ≤ nI (dgt T (a + i)) from nI_le (a := 3) (by omega) (by omega))]
      obtain ⟨f, rfl⟩ : ∃ g, f = g + 1 := ⟨f - 1, by omega⟩
      have hj := j110_f (μ := (up2 μ.1 119 (5 * p + i) (nI (dgt T (a + i))), μ.2)) (a := a) h15
      refine ⟨2, (up2 (up2 μ.1 119 (5 * p + i) (nI (dgt T (a + i)))) 107 12 (nI a), μ.2), ?_, p1.tr ⟨rfl, fun b h1 h2 => up2_ne h1, fun j hj => rfl, fun s hs => up2_nk hs⟩, ?_⟩
      · show f_X10_takePerson_L52b _ _ _ _ _ _ = _
        unfold f_X10_takePerson_L52b
        rw [if_pos (show (0 : Int32) = 0 from rfl), hj]
        split <;> rfl
      · rw [if_neg (show ¬ okd T a 5 = true by rw [okd_f (k := i + 1) (by rw [hok, decide_eq_false q, Bool.and_false]) 5 (by omega)]; decide)]
        exact ⟨show 0 < 2 ∧ 2 < 5 by decide, rfl, rfl⟩
theorem person_m {P Q k : Nat} {T : Tx} {μ : Mm} {D : Dr} (hr : μ.2 = RFt P Q) (g : GM μ T k) (c : MD μ D) (hM7 : hM D.1 < 7) :
    ∃ x μ', f_X10_takePerson μ 107 = some (x, μ') ∧ RdA μ μ' ∧ OutM μ' T x (peF T D k) := by
  obtain ⟨c1', c2', c3', c4', c5', c6', c7', c8'⟩ := c
  have h240 := g.1.1
  have g2 : GM (up2 μ.1 107 23 (nI (hM D.1 + 1)), μ.2) T k := g.cg rfl (fun s hs => up2_nk (by omega))
  have r0 : RdA μ (up2 μ.1 107 23 (nI (hM D.1 + 1)), μ.2) := RdA.us (Or.inr (Or.inr (Or.inr rfl)))
  obtain ⟨x1, μ1, e1, e2, e3⟩ := tk_num (P := P) (Q := Q) (lo := 0) (hi := 22222) (loI := 0) (hiI := 22222) rfl rfl (by decide) (by decide) (show (up2 μ.1 107 23 (nI (hM D.1 + 1)), μ.2).2 = RFt P Q from hr) g2
  have hr1 : μ1.2 = RFt P Q := e2.1.trans hr
  have r1 : RdA μ μ1 := r0.tr e2.rd
  unfold f_X10_takePerson
  rw [c7', bI_s, nI_p1, bM_s, e1, bC_s]
  rcases h1 : rdN T 0 22222 k with e | ⟨v, e⟩
  · rw [h1] at e3
    have e3 : Bd μ1 x1 e := e3
    rw [if_neg e3.nle, pe_l h1]
    exact ⟨x1, μ1, rfl, r1, e3⟩
  rw [h1] at e3
  obtain ⟨f1, f2, f3, f4⟩ := e3
  have f2 : GM μ1 T e := f2
  obtain ⟨p1, p2, p3⟩ := pe_r (D := D) h1
  subst p1
  have hge := fe_ge T (sk T k)
  have hle := f2.2.2.2
  have hbad : ∃ x μ', some ((2 : Int32), (up2 μ1.1 107 12 (nI (sk T k)), μ1.2)) = some (x, μ') ∧ RdA μ μ' ∧ OutM μ' T x (Sum.inl (2, sk T k)) := ⟨2, _, rfl, r1.tr (RdA.us (Or.inl (by decide))), show Bd _ 2 (2, sk T k) from ⟨show 0 < 2 ∧ 2 < 5 by decide, rfl, rfl⟩⟩
  rw [if_pos (show x1 ≤ 0 by rw [f1]; decide), f2.2.2.1, f4, pk_sub hge, p3]
  unfold f_X10_takePerson_j48
  by_cases q5 : fe T (sk T k) - sk T k = 5
  · rw [if_pos (show nI (fe T (sk T k) - sk T k) = (5 : Int32) by rw [q5]; rfl)]
    obtain ⟨x, μ', l1, l2, l3⟩ := person_L (P := P) (Q := Q) (e := fe T (sk T k)) (a := sk T k) (p := hM D.1) (T := T) hM7 (fun i hi => fe_in (k := sk T k) (by omega) (by omega)) 5 0 FU μ1 hr1 f2 f4 (fun j hj => absurd hj (Nat.not_lt_zero _)) rfl (by omega) (by rw [FU_eq]; omega)
    refine ⟨x, μ', l1, r1.tr l2.rd, ?_⟩
    by_cases z : okd T (sk T k) 5 = true
    · rw [if_pos z] at l3
      rw [if_pos ⟨q5, z⟩]
      obtain ⟨n1, n2, n3⟩ := l3
      have hs : ∀ s, ¬ (12 ≤ s ∧ s ≤ 15) → μ'.1 107 s = up2 μ.1 107 23 (nI (hM D.1 + 1)) 107 s := fun s hs => (l2.2.2.2 s (by omega)).trans (e2.2.2 s hs)
      have hb' : ∀ b, b ≠ 107 → b ≠ 119 → μ'.1 b = μ.1 b := fun b h1 h2 => (l2.2.1 b h1 h2).trans ((e2.2.1 b h1).trans (up2_ne h1))
      refine ⟨n1, n2, ?_, ?_, ?_, fun j hj => ?_, ?_, fun i hi => ?_, ?_, fun q hq i hi => ?_⟩
      · rw [hb' 114 (by decide) (by decide)]; exact c1'
      · rw [hb' 114 (by decide) (by decide)]; exact c2'
      · rw [hs 18 (by decide), up2_nk (by decide)]; exact c3'
      · rw [hb' 115 (by decide) (by decide)]; exact c4' j hj
      · rw [hs 19 (by decide), up2_nk (by decide)]; exact c5'
      · rw [hb' 116 (by decide) (by decide), hb' 117 (by decide) (by decide), hb' 118 (by decide) (by decide)]; exact c6' i hi
      · rw [hs 23 (by decide), up2_at]; rfl
      · have hq : q < hM D.1 + 1 := hq
        show μ'.1 119 (5 * q + i) = nI ((if q = hM D.1 then (fun i => dgt T (sk T k + i)) else D.2 q) i)
        by_cases u : q = hM D.1
        · rw [if_pos u, u]
          exact n3 i hi
        · rw [if_neg u, l2.2.2.1 (5 * q + i) (by omega), e2.2.1 119 (by decide)]
          exact c8' q (by omega) i hi
    · rw [if_neg z] at l3
      rw [if_neg (fun w => z w.2)]
      exact l3
  · rw [if_neg (show ¬ nI (fe T (sk T k) - sk T k) = (5 : Int32) from nI_ne (b := 5) q5 (by omega) (by omega)), if_neg (fun w => q5 w.1)]
    show ∃ x μ', f_X10_takePerson_L52b _ _ _ _ _ _ = some (x, μ') ∧ _
    unfold f_X10_takePerson_L52b
    rw [if_neg (by decide), if_pos (show (0 : Int32) = 0 from rfl), j110_f f4]
    exact hbad
