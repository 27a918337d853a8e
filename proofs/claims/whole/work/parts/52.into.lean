/-! a clause, all clauses -/
theorem cls_c {P Q W : Nat} {T : Tx} {μ : Mm} {r : Sum (Nat × Nat) (Dr × Nat)} (hW : W = 3 ∨ W = 11) (hr : μ.2 = RFt P Q) (o : OutC μ T W r) : ∃ μ', f_X7_readClause_j86 μ 1 = some μ' ∧ Ag μ μ' (XW W) ∧ OutC μ' T W (cls T r) := by
  unfold f_X7_readClause_j86 cls
  rcases r with ⟨fl, w⟩ | ⟨D, k⟩
  · obtain ⟨μ', e1, e2, e3⟩ := close_b hr (show BD μ T fl w from o)
    rw [e1, bV_s, bnd_l]
    exact ⟨μ', rfl, e2.wk (fun a q => Or.inl q), e3⟩
  · obtain ⟨g, c⟩ : GD μ T k ∧ CD μ W D := o
    rw [bnd_r]
    dsimp only
    rcases h : clz T k with ⟨fl, w⟩ | e
    · obtain ⟨μ', e1, e2, e3⟩ := close_f hr g h
      rw [e1, bV_s, bnd_l]
      exact ⟨μ', rfl, e2.wk (fun a q => Or.inl q), e3⟩
    · obtain ⟨μ', e1, e2, e3⟩ := close_g hr g h
      rw [e1, bV_s, bnd_r]
      exact ⟨μ', rfl, e2.wk (fun a q => Or.inl q), e3, c.x1 hW e2⟩
def fwd (T : Tx) (D : Dr) (k : Nat) : Nat :=
  if hC D.1 = 0 then (if lc T k = 104 then 0 else 1)
  else if lc T k = 104 then 3
  else if lc T k = 103 then (if 0 < D.1 0 4 then 3 else 0)
  else if lc T k = 105 then (if 5 ≤ hN D.1 then 3 else 0)
  else if lc T k = 112 then (if 7 ≤ hM D.1 then 3 else 0)
  else 1
theorem flaw_eq {W k : Nat} {T : Tx} {μ : Mm} {D : Dr} (c : CD μ W D) (d : DOK D) : f_X7_flawOfWord μ (lc T k) W = some (nI (fwd T D k), μ) := by
  have hC5 := d.1
  have h20 := d.2.2.2.2.1
  have hN5 := d.2.2.1
  have hM7 := d.2.2.2.1
  unfold f_X7_flawOfWord f_X4_isThere fwd
  rw [c.1]
  by_cases q : hC D.1 = 0
  · rw [if_pos q, if_pos (show nI (hC D.1) ≤ 0 by rw [q]; decide), bC_s, if_pos rfl]
    by_cases w : lc T k = 104
    · rw [if_pos w, if_pos w]; rfl
    · rw [if_neg w, if_neg w]; rfl
  · rw [if_neg q, if_neg (nI_nle (by omega) (by omega)), bC_s, if_neg (by decide), c.2.2.2.2.2.1, c.2.2.2.1, c.2.2.2.2.1]
    by_cases w4 : lc T k = 104
    · rw [w4]
      rfl
    · rw [if_neg w4, if_neg w4]
      by_cases w3 : lc T k = 103
      · rw [if_pos w3, if_pos w3]
        by_cases z : 0 < D.1 0 4
        · rw [if_pos z, if_neg (nI_nle z (by omega))]; rfl
        · rw [if_neg z, if_pos (show nI (D.1 0 4) ≤ 0 by rw [show D.1 0 4 = 0 by omega]; decide)]; rfl
      · rw [if_neg w3, if_neg w3]
        by_cases w5 : lc T k = 105
        · rw [if_pos w5, if_pos w5]
          by_cases z : 5 ≤ hN D.1
          · rw [if_pos z, if_neg (show ¬ nI (hN D.1) < (5 : Int32) from nI_nlt (b := 5) z (by omega))]; rfl
          · rw [if_neg z, if_pos (show nI (hN D.1) < (5 : Int32) from nI_lt (b := 5) (by omega) (by omega))]; rfl
        · rw [if_neg w5, if_neg w5]
          by_cases w12 : lc T k = 112
          · have a6 : ¬ lc T k = 106 := by rw [w12]; decide
            have a7 : ¬ lc T k = 107 := by rw [w12]; decide
            have a8 : ¬ lc T k = 108 := by rw [w12]; decide
            have a9 : ¬ lc T k = 109 := by rw [w12]; decide
            have a10 : ¬ lc T k = 110 := by rw [w12]; decide
            have a11 : ¬ lc T k = 111 := by rw [w12]; decide
            rw [if_neg a6, if_neg a7, if_neg a8, if_neg a9, if_neg a10, if_neg a11, if_pos w12, if_pos w12]
            by_cases z : 7 ≤ hM D.1
            · rw [if_pos z, if_neg (show ¬ nI (hM D.1) < (7 : Int32) from nI_nlt (b := 7) z (by omega))]; rfl
            · rw [if_neg z, if_pos (show nI (hM D.1) < (7 : Int32) from nI_lt (b := 7) (by omega) (by omega))]; rfl
          · rw [if_neg w12, if_neg w12]
            simp only [ite_self]
            rfl
theorem clause_c {P Q W k : Nat} {T : Tx} {μ : Mm} {D : Dr} (hW : W = 3 ∨ W = 11) (hr : μ.2 = RFt P Q) (g : GD μ T k) (c : CD μ W D) (d : DOK D) (hk : k < T.1) :
    ∃ μ', f_X7_readClause μ 1 W = some μ' ∧ Ag μ μ' (XW W) ∧ OutC μ' T W (clF T D k) := by
  have h240 := g.1.1
  have hf := flaw_eq (k := k) (T := T) c d
  have h4 := g.2.2.2.1
  have gu : Ag μ (up2 μ.1 1 4 (nI (k + 1)), μ.2) X1 := Ag.up rfl
  have g1 : GD (up2 μ.1 1 4 (nI (k + 1)), μ.2) T (k + 1) := ⟨g.1.at4, g.2.1, g.2.2.1, rfl, by omega⟩
  have c1 := c.x1 hW gu
  have gX : Ag μ (up2 μ.1 1 4 (nI (k + 1)), μ.2) (XW W) := gu.wk (fun a q => Or.inl q)
  have hbad : ∀ fl, 0 < fl ∧ fl < 5 → fwd T D k = fl → ∃ μ', f_X7_readClause μ 1 W = some μ' ∧ Ag μ μ' (XW W) ∧ OutC μ' T W (Sum.inl (fl, k)) := by
    intro fl hfl e
    obtain ⟨μ2, l1, l2, l3, l4, l5⟩ := fail_g fl k g hfl
    refine ⟨μ2, ?_, l2.wk (fun a q => Or.inl q), l3⟩
    unfold f_X7_readClause
    rw [h4, letterAt_eq hr g.1 (by omega), bC_s, hf, bC_s, e, if_neg (fun w => nI_ne0 hfl.1 (by omega) w), h4, l1, bV_s]
  have hgo : fwd T D k = 0 → f_X7_readClause μ 1 W = (if lc T k = (104 : Int32) then (bV (f_X7_readSize (up2 μ.1 1 4 (nI (k + 1)), μ.2) 1 W) (fun μ21 => f_X7_readClause_j86 μ21 1)) else (if lc T k = (103 : Int32) then (bV (f_X7_readHeights (up2 μ.1 1 4 (nI (k + 1)), μ.2) 1 W) (fun μ18 => f_X7_readClause_j86 μ18 1)) else (if lc T k = (105 : Int32) then (bV (f_X7_readItem (up2 μ.1 1 4 (nI (k + 1)), μ.2) 1 W) (fun μ15 => f_X7_readClause_j86 μ15 1)) else (bV (f_X7_readPerson (up2 μ.1 1 4 (nI (k + 1)), μ.2) 1 W) (fun μ12 => f_X7_readClause_j86 μ12 1))))) := by
    intro e
    unfold f_X7_readClause
    rw [h4, letterAt_eq hr g.1 (by omega), bC_s, hf, bC_s, e, if_pos (show nI 0 = 0 from rfl), h4, nI_p1, bM_s]
  unfold clF
  by_cases q : hC D.1 = 0
  · rw [if_pos q]
    by_cases w : lc T k = 104
    · rw [if_pos w, hgo (by unfold fwd; rw [if_pos q, if_pos w]), if_pos w]
      obtain ⟨μ2, e1, e2, e3⟩ := size_c (P := P) (Q := Q) (μ := (up2 μ.1 1 4 (nI (k + 1)), μ.2)) hW hr g1 c1 d q
      obtain ⟨μ3, d1, d2, d3⟩ := cls_c hW (e2.1.trans hr) e3
      rw [e1, bV_s]
      exact ⟨μ3, d1, (gX.tr e2).tr d2, d3⟩
    · rw [if_neg w]
      exact hbad 1 (by decide) (by unfold fwd; rw [if_pos q, if_neg w])
  · rw [if_neg q]
    by_cases w4 : lc T k = 104
    · rw [if_pos w4]
      exact hbad 3 (by decide) (by unfold fwd; rw [if_neg q, if_pos w4])
    · rw [if_neg w4]
      by_cases w3 : lc T k = 103
      · rw [if_pos w3]
        by_cases z : 0 < D.1 0 4
        · rw [if_pos z]
          exact hbad 3 (by decide) (by unfold fwd; rw [if_neg q, if_neg w4, if_pos w3, if_pos z])
        · rw [if_neg z, hgo (by unfold fwd; rw [if_neg q, if_neg w4, if_pos w3, if_neg z]), if_neg w4, if_pos w3]
          obtain ⟨μ2, e1, e2, e3⟩ := heights_loop (P := P) (Q := Q) hW 19 FU (k + 1) D (up2 μ.1 1 4 (nI (k + 1)), μ.2) hr g1 c1 (by omega) (by rw [FU_eq]; omega)
          rw [show D.1 0 4 + 1 = 1 by omega] at e1
          obtain ⟨μ3, d1, d2, d3⟩ := cls_c hW (e2.1.trans hr) e3
          rw [show f_X7_readHeights (up2 μ.1 1 4 (nI (k + 1)), μ.2) 1 W = some μ2 from e1, bV_s]
          exact ⟨μ3, d1, (gX.tr e2).tr d2, d3⟩
      · rw [if_neg w3]
        by_cases w5 : lc T k = 105
        · rw [if_pos w5]
          by_cases z : 5 ≤ hN D.1
          · rw [if_pos z]
            exact hbad 3 (by decide) (by unfold fwd; rw [if_neg q, if_neg w4, if_neg w3, if_pos w5, if_pos z])
          · rw [if_neg z, hgo (by unfold fwd; rw [if_neg q, if_neg w4, if_neg w3, if_pos w5, if_neg z]), if_neg w4, if_neg w3, if_pos w5]
            obtain ⟨μ2, e1, e2, e3⟩ := item_c (P := P) (Q := Q) (μ := (up2 μ.1 1 4 (nI (k + 1)), μ.2)) hW hr g1 c1 d (by omega) (by omega)
            obtain ⟨μ3, d1, d2, d3⟩ := cls_c hW (e2.1.trans hr) e3
            rw [e1, bV_s]
            exact ⟨μ3, d1, (gX.tr e2).tr d2, d3⟩
        · rw [if_neg w5]
          by_cases w12 : lc T k = 112
          · rw [if_pos w12]
            by_cases z : 7 ≤ hM D.1
            · rw [if_pos z]
              exact hbad 3 (by decide) (by unfold fwd; rw [if_neg q, if_neg w4, if_neg w3, if_neg w5, if_pos w12, if_pos z])
            · rw [if_neg z, hgo (by unfold fwd; rw [if_neg q, if_neg w4, if_neg w3, if_neg w5, if_pos w12, if_neg z]), if_neg w4, if_neg w3, if_neg w5]
              obtain ⟨μ2, e1, e2, e3⟩ := person_c (P := P) (Q := Q) (μ := (up2 μ.1 1 4 (nI (k + 1)), μ.2)) hW hr g1 c1 d (by omega)
              obtain ⟨μ3, d1, d2, d3⟩ := cls_c hW (e2.1.trans hr) e3
              rw [e1, bV_s]
              exact ⟨μ3, d1, (gX.tr e2).tr d2, d3⟩
          · rw [if_neg w12]
            exact hbad 1 (by decide) (by unfold fwd; rw [if_neg q, if_neg w4, if_neg w3, if_neg w5, if_neg w12])
/-! what a clause leaves is in order -/
theorem bnd_i {α β : Type} {r : Sum (Nat × Nat) α} {g : α → Sum (Nat × Nat) β} {y : β} (h : bnd r g = Sum.inr y) : ∃ x, r = Sum.inr x ∧ g x = Sum.inr y := by
  rcases r with e | x
  · rw [bnd_l] at h; cases h
  · exact ⟨x, rfl, h⟩
theorem clz_i {T : Tx} {k e : Nat} (h : clz T k = Sum.inr e) : k < e ∧ e ≤ T.1 := by
  unfold clz at h
  by_cases q : lc T (sk T k) = 59
  · rw [if_pos q] at h
    cases h
    have h1 := sk_ge T k
    have h2 := lc_lt q (by decide)
    omega
  · rw [if_neg q] at h; cases h
theorem cls_i {T : Tx} {r : Sum (Nat × Nat) (Dr × Nat)} {D : Dr} {e : Nat} (h : cls T r = Sum.inr (D, e)) : ∃ k, r = Sum.inr (D, k) ∧ k < e ∧ e ≤ T.1 := by
  obtain ⟨⟨D', k⟩, e1, e2⟩ := bnd_i h
  obtain ⟨k', e3, e4⟩ := bnd_i e2
  have hz := clz_i e3
  cases e4
  exact ⟨k, e1, hz⟩
theorem htF_i {T : Tx} : ∀ (m : Nat) (D D' : Dr) (k e : Nat), htF T m D k = Sum.inr (D', e) → DOK D → D.1 0 4 + m ≤ 20 → 0 < hC D.1 → DOK D' ∧ k < e
  | 0, D, D', k, e, h, d, hm, h0 => by cases (show Sum.inl (1, k) = Sum.inr (D', e) from h)
  | m + 1, D, D', k, e, h, d, hm, h0 => by
    obtain ⟨⟨v, k1⟩, e1, e2⟩ := bnd_i (show bnd (rdN T 0 9 k) (fun x => if lc T (sk T x.2) = 44 ∧ m ≠ 0 then htF T m (dHt D x.1) (sk T x.2 + 1) else Sum.inr (dHt D x.1, sk T x.2)) = Sum.inr (D', e) from h)
    have hv := rdN_v e1
    have hs := sk_ge T k1
    have d' : DOK (dHt D v) := by
      obtain ⟨d1, d2, d3, d4, d5, d6, d7, d8, d9, d10⟩ := d
      refine ⟨d1, d2, d3, d4, show D.1 0 4 + 1 ≤ 20 by omega, fun w => absurd (show hC D.1 = 0 from w) (by omega), d7, fun j hj => ?_, d9, d10⟩
      have hj : j < D.1 0 4 + 1 := hj
      show up2 D.1 1 (D.1 0 4) v 1 j ≤ 9
      by_cases q : j = D.1 0 4
      · rw [q, up2_at]; omega
      · rw [up2_nk q]; exact d8 j (by omega)
    dsimp only at e2
    by_cases q : lc T (sk T k1) = 44 ∧ m ≠ 0
    · rw [if_pos q] at e2
      have r := htF_i m (dHt D v) D' (sk T k1 + 1) e e2 d' (by show D.1 0 4 + 1 + m ≤ 20; omega) h0
      exact ⟨r.1, by omega⟩
    · rw [if_neg q] at e2
      cases e2
      exact ⟨d', by omega⟩
theorem okd_i {T : Tx} {a : Nat} : ∀ n, okd T a n = true → ∀ i, i < n → dgt T (a + i) ≤ 2
  | 0, _, i, hi => absurd hi (Nat.not_lt_zero _)
  | n + 1, h, i, hi => by
    have h : (okd T a n && decide (dgt T (a + n) ≤ 2)) = true := h
    rw [Bool.and_eq_true] at h
    by_cases e : i = n
    · rw [e]; exact of_decide_eq_true h.2
    · exact okd_i n h.1 i (by omega)
theorem clF_i {T : Tx} {D D' : Dr} {k e : Nat} (h : clF T D k = Sum.inr (D', e)) (d : DOK D) : DOK D' ∧ k < e ∧ e ≤ T.1 := by
  unfold clF at h
  by_cases q : hC D.1 = 0
  · rw [if_pos q] at h
    by_cases w : lc T k = 104
    · rw [if_pos w] at h
      obtain ⟨k1, e1, e2⟩ := cls_i h
      obtain ⟨⟨c, kc⟩, f1, f2⟩ := bnd_i e1
      obtain ⟨⟨r, kr⟩, g1, g2⟩ := bnd_i f2
      have v1 := rdN_v f1
      have v2 := rdN_v g1
      cases g2
      obtain ⟨d1, d2, d3, d4, d5, d6, d7, d8, d9, d10⟩ := d
      have z := d6 q
      refine ⟨⟨v1.2.1, v2.2.1, d3, d4, d5, fun w => absurd (show c = 0 from w) (by omega), fun _ => show 0 < r by omega, d8, fun i hi => absurd (show i < hN D.1 from hi) (by omega), d10⟩, by dsimp only at *; omega, e2.2⟩
    · rw [if_neg w] at h; cases h
  · rw [if_neg q] at h
    by_cases w4 : lc T k = 104
    · rw [if_pos w4] at h; cases h
    · rw [if_neg w4] at h
      by_cases w3 : lc T k = 103
      · rw [if_pos w3] at h
        by_cases z : 0 < D.1 0 4
        · rw [if_pos z] at h; cases h
        · rw [if_neg z] at h
          obtain ⟨k1, e1, e2⟩ := cls_i h
          have r := htF_i 20 D D' (k + 1) k1 e1 d (by omega) (by omega)
          exact ⟨r.1, by omega, e2.2⟩
      · rw [if_neg w3] at h
        by_cases w5 : lc T k = 105
        · rw [if_pos w5] at h
          by_cases z : 5 ≤ hN D.1
          · rw [if_pos z] at h; cases h
          · rw [if_neg z] at h
            obtain ⟨k1, e1, e2⟩ := cls_i h
            obtain ⟨⟨a, ka⟩, f1, f2⟩ := bnd_i e1
            obtain ⟨⟨b, kb⟩, g1, g2⟩ := bnd_i f2
            dsimp only at g2
            by_cases y : bhd (hC D.1) a b = true
            · rw [if_pos y] at g2; cases g2
            · rw [if_neg y] at g2
              obtain ⟨⟨l, kl⟩, m1, m2⟩ := bnd_i g2
              have v1 := rdN_v f1
              have v2 := rdN_v g1
              have v3 := rdN_v m1
              cases m2
              obtain ⟨d1, d2, d3, d4, d5, d6, d7, d8, d9, d10⟩ := d
              have hz0 : 0 < hZ D.1 := Nat.mul_pos (by omega) (d7 (by omega))
              have y2 := of_decide_eq_false (show decide (b / hC D.1 < a / hC D.1 ∨ b % hC D.1 < a % hC D.1) = false from Bool.eq_false_iff.mpr y)
              refine ⟨⟨d1, d2, show hN D.1 + 1 ≤ 5 by omega, d4, d5, fun w => absurd (show hC D.1 = 0 from w) q, d7, d8, fun i hi => ?_, d10⟩, by dsimp only at *; omega, e2.2⟩
              have hi : i < hN D.1 + 1 := hi
              rw [dIt_2, dIt_3, dIt_4]
              show (if i = hN D.1 then a else D.1 2 i) < hZ D.1 ∧ (if i = hN D.1 then b else D.1 3 i) < hZ D.1 ∧ (if i = hN D.1 then a else D.1 2 i) / hC D.1 ≤ (if i = hN D.1 then b else D.1 3 i) / hC D.1 ∧ (if i = hN D.1 then a else D.1 2 i) % hC D.1 ≤ (if i = hN D.1 then b else D.1 3 i) % hC D.1 ∧ (if i = hN D.1 then l else D.1 4 i) ≤ 9
              by_cases x : i = hN D.1
              · rw [if_pos x, if_pos x, if_pos x]
                exact ⟨by omega, by omega, by omega, by omega, by omega⟩
              · rw [if_neg x, if_neg x, if_neg x]
                exact d9 i (by omega)
        · rw [if_neg w5] at h
          by_cases w12 : lc T k = 112
          · rw [if_pos w12] at h
            by_cases z : 7 ≤ hM D.1
            · rw [if_pos z] at h; cases h
            · rw [if_neg z] at h
              obtain ⟨k1, e1, e2⟩ := cls_i h
              unfold peF at e1
              by_cases y : fe T (sk T (k + 1)) = sk T (k + 1)
              · rw [if_pos y] at e1; cases e1
              · rw [if_neg y] at e1
                by_cases x : fe T (sk T (k + 1)) - sk T (k + 1) = 5 ∧ okd T (sk T (k + 1)) 5 = true
                · rw [if_pos x] at e1
                  cases e1
                  have hs := sk_ge T (k + 1)
                  obtain ⟨d1, d2, d3, d4, d5, d6, d7, d8, d9, d10⟩ := d
                  refine ⟨⟨d1, d2, d3, show hM D.1 + 1 ≤ 7 by omega, d5, fun w => absurd (show hC D.1 = 0 from w) q, d7, d8, d9, fun p hp i hi => ?_⟩, by omega, e2.2⟩
                  have hp : p < hM D.1 + 1 := hp
                  show (if p = hM D.1 then (fun i => dgt T (sk T (k + 1) + i)) else D.2 p) i ≤ 2
                  by_cases u : p = hM D.1
                  · rw [if_pos u]
                    exact okd_i 5 x.2 i hi
                  · rw [if_neg u]
                    exact d10 p (by omega) i hi
                · rw [if_neg x] at e1; cases e1
          · rw [if_neg w12] at h; cases h
/-! all clauses -/
def hsF (T : Tx) : Nat → Dr → Nat → Sum (Nat × Nat) Dr
  | 0, D, _ => Sum.inr D
  | m + 1, D, k => if T.1 ≤ k then Sum.inr D else bnd (clF T D k) (fun x => hsF T m x.1 (sk T x.2))
theorem hsF_e {T : Tx} {D : Dr} {k : Nat} (h : T.1 ≤ k) : ∀ m, hsF T m D k = Sum.inr D
  | 0 => rfl
  | m + 1 => if_pos h
theorem hsF_i {T : Tx} : ∀ (m : Nat) (D D' : Dr) (k : Nat), hsF T m D k = Sum.inr D' → DOK D → DOK D'
  | 0, D, D', k, h, d => by cases (show Sum.inr D = Sum.inr D' from h); exact d
  | m + 1, D, D', k, h, d => by
    have h : (if T.1 ≤ k then Sum.inr D else bnd (clF T D k) (fun x => hsF T m x.1 (sk T x.2))) = Sum.inr D' := h
    by_cases q : T.1 ≤ k
    · rw [if_pos q] at h; cases h; exact d
    · rw [if_neg q] at h
      obtain ⟨⟨D1, k1⟩, e1, e2⟩ := bnd_i h
      exact hsF_i m D1 D' _ e2 (clF_i e1 d).1
/-- how the reading ended: what is answered, the fault's place, the text empty -/
def EndC (μ : Mm) (W : Nat) (x : Int32) (r : Sum (Nat × Nat) Dr) : Prop := μ.1 1 1 = 0 ∧ (match r with
  | Sum.inl e => (0 < e.1 ∧ e.1 < 5) ∧ x = nI e.1 ∧ μ.1 1 2 = nI e.2
  | Sum.inr D => x = 0 ∧ μ.1 1 2 = -1 ∧ CD μ W D)
theorem end_g {W k : Nat} {T : Tx} {μ : Mm} {D : Dr} (hW : W = 3 ∨ W = 11) (g : GD μ T k) (c : CD μ W D) : ∃ x μ', f_X7_readInto_j65 μ 1 = some (x, μ') ∧ Ag μ μ' (XW W) ∧ EndC μ' W x (Sum.inr D) :=
  ⟨0, (up2 μ.1 1 1 0, μ.2), by
    unfold f_X7_readInto_j65
    rw [bM_s]
    show some (μ.1 1 3, _) = _
    rw [g.2.1], Ag.up (Or.inl rfl), rfl, rfl, g.2.2.1, c.cg (fun a h1 h2 => up2_ne (by omega))⟩
theorem end_b {W fl w : Nat} {T : Tx} {μ : Mm} (g : BD μ T fl w) : ∃ x μ', f_X7_readInto_j65 μ 1 = some (x, μ') ∧ Ag μ μ' (XW W) ∧ EndC μ' W x (Sum.inl (fl, w)) :=
  ⟨nI fl, (up2 μ.1 1 1 0, μ.2), by
    unfold f_X7_readInto_j65
    rw [bM_s]
    show some (μ.1 1 3, _) = _
    rw [g.2.2.1], Ag.up (Or.inl rfl), rfl, g.2.1, rfl, g.2.2.2.1⟩
theorem into_loop {P Q W : Nat} {T : Tx} (hW : W = 3 ∨ W = 11) : ∀ (m c k f : Nat) (D : Dr) (μ : Mm), μ.2 = RFt P Q → GD μ T k → CD μ W D → DOK D → T.1 ≤ k + m → c ≤ k → m + 1 < f →
    ∃ x μ', f_X7_readInto_L25 f μ 1 W (nI c) = some (x, μ') ∧ Ag μ μ' (XW W) ∧ EndC μ' W x (hsF T m D k) := by
  intro m
  induction m with
  | zero =>
    intro c k f D μ hr g cd d hm hc hf
    obtain ⟨f, rfl⟩ := fs1 hf
    have h240 := g.1.1
    have hk := g.2.2.2.2
    obtain ⟨x, μ', e1, e2, e3⟩ := end_g hW g cd
    refine ⟨x, μ', ?_, e2, e3⟩
    show f_X7_readInto_L25b _ _ _ _ _ = _
    unfold f_X7_readInto_L25b
    rw [g.1.2.2.1, g.2.2.2.1, if_pos (nI_le (show T.1 ≤ k by omega) (by omega)), e1]
    split <;> rfl
  | succ m ih =>
    intro c k f D μ hr g cd d hm hc hf
    obtain ⟨f, rfl⟩ := fs1 hf
    have h240 := g.1.1
    have hk := g.2.2.2.2
    by_cases q : T.1 ≤ k
    · rw [hsF_e q]
      obtain ⟨x, μ', e1, e2, e3⟩ := end_g hW g cd
      refine ⟨x, μ', ?_, e2, e3⟩
      show f_X7_readInto_L25b _ _ _ _ _ = _
      unfold f_X7_readInto_L25b
      rw [g.1.2.2.1, g.2.2.2.1, if_pos (nI_le q (by omega)), e1]
      split <;> rfl
    · obtain ⟨μ1, e1, e2, e3⟩ := clause_c hW hr g cd d (by omega)
      have hr1 := e2.1.trans hr
      show ∃ x μ', f_X7_readInto_L25b _ _ _ _ _ = _ ∧ _ ∧ EndC μ' W x (if T.1 ≤ k then Sum.inr D else bnd (clF T D k) (fun x => hsF T m x.1 (sk T x.2)))
      unfold f_X7_readInto_L25b
      rw [if_neg (show ¬ (240 : Int32) ≤ nI c from nI_ge (b := 240) (by omega) (by omega)), g.1.2.2.1, g.2.2.2.1, if_neg (nI_ge (by omega) (by omega)), if_pos g.2.1, e1, bV_s, nI_p1, if_neg q]
      rcases h : clF T D k with ⟨fl, w⟩ | ⟨D1, k1⟩
      · rw [h] at e3
        obtain ⟨μ2, d1, d2, d3⟩ := BD.skp (show BD μ1 T fl w from e3) hr1
        obtain ⟨x, μ3, l1, l2, l3⟩ := end_b (W := W) d3
        rw [d1, bV_s, bnd_l]
        refine ⟨x, μ3, ?_, (e2.tr (d2.wk (fun a q => Or.inl q))).tr l2, l3⟩
        obtain ⟨f, rfl⟩ : ∃ g, f = g + 1 := ⟨f - 1, by omega⟩
        show f_X7_readInto_L25b _ _ _ _ _ = _
        unfold f_X7_readInto_L25b
        rw [if_neg d3.ne, l1]
        split
        · rfl
        · split <;> rfl
      · rw [h] at e3
        obtain ⟨g1, cd1⟩ : GD μ1 T k1 ∧ CD μ1 W D1 := e3
        have hi := clF_i h d
        obtain ⟨μ2, d1, d2, d3⟩ := g1.skp hr1
        have hs := sk_ge T k1
        obtain ⟨x, μ3, l1, l2, l3⟩ := ih (c + 1) (sk T k1) f D1 μ2 (d2.1.trans hr1) d3 (cd1.x1 hW d2) hi.1 (by omega) (by omega) (by omega)
        rw [d1, bV_s, bnd_r]
        exact ⟨x, μ3, l1, (e2.tr (d2.wk (fun a q => Or.inl q))).tr l2, l3⟩
def D0 : Dr := (fun _ _ => 0, fun _ _ => 0)
theorem D0_ok : DOK D0 := ⟨by decide, by decide, by decide, by decide, by decide, fun _ => ⟨rfl, rfl, rfl, rfl⟩, fun h => absurd h (by decide), fun j hj => absurd hj (Nat.not_lt_zero _), fun j hj => absurd hj (Nat.not_lt_zero _), fun j hj => absurd hj (Nat.not_lt_zero _)⟩
theorem bclear_eq {P Q a : Nat} {μ : Mm} (ha : BalA a) (hr : μ.2 = RFt P Q) : ∃ μ', f_X0_clear μ a = some μ' ∧ Ag μ μ' (fun b => a ≤ b ∧ b ≤ a + 2) ∧ (∀ i, i < 5 → μ'.1 (a + 1) i = 0 ∧ μ'.1 (a + 2) i = 0) ∧ μ'.1 a 2 = 0 ∧ μ'.1 a 3 = -1 := by
  obtain ⟨μ1, e1, e2, e3⟩ := fill_eq (a := a + 1) μ 0 ha.2.1 (by decide)
  have hr1 := e2.1.trans hr
  obtain ⟨μ2, d1, d2, d3⟩ := fill_eq (a := a + 2) μ1 0 ha.2.2 (by decide)
  have gu : Ag μ2 (up2 (up2 μ2.1 a 2 0) a 3 (-1), μ2.2) (fun b => b = a) := (Ag.up (X := fun b => b = a) rfl).u1 rfl
  refine ⟨(up2 (up2 μ2.1 a 2 0) a 3 (-1), μ2.2), ?_, ((e2.wk (fun b q => by omega)).tr (d2.wk (fun b q => by omega))).tr (gu.wk (fun b q => by omega)), fun i hi => ⟨?_, ?_⟩, ?_, ?_⟩
  · unfold f_X0_clear
    rw [rd hr (ha.1 P Q).1, bR_s, e1, bV_s, rd hr1 (ha.1 P Q).2, bR_s, d1, bV_s, bM_s, bM_s]
  · rw [gu.2 (a + 1) (by omega), d2.2 (a + 1) (by omega)]
    exact e3 i hi
  · rw [gu.2 (a + 2) (by omega)]
    exact d3 i hi
  · show up2 (up2 μ2.1 a 2 0) a 3 (-1) a 2 = 0
    rw [up2_nk (by decide), up2_at]
  · show up2 (up2 μ2.1 a 2 0) a 3 (-1) a 3 = -1
    rw [up2_at]
theorem hclear_eq {P Q W : Nat} {μ : Mm} (hW : W = 3 ∨ W = 11) (hr : μ.2 = RFt P Q) : ∃ μ', f_X4_clear μ W = some μ' ∧ Ag μ μ' (fun b => W ≤ b ∧ b ≤ W + 7) ∧ CD μ' W D0 := by
  have gu : Ag μ (up2 (up2 (up2 (up2 (up2 (up2 μ.1 W 0 0) W 1 0) W 2 0) W 3 0) W 4 0) W 5 0, μ.2) (fun b => b = W) := (((((Ag.up (X := fun b => b = W) rfl).u1 rfl).u1 rfl).u1 rfl).u1 rfl).u1 rfl
  obtain ⟨μ1, e1, e2, e3, e4, e5⟩ := bclear_eq (P := P) (Q := Q) (μ := (up2 (up2 (up2 (up2 (up2 (up2 μ.1 W 0 0) W 1 0) W 2 0) W 3 0) W 4 0) W 5 0, μ.2)) (bal_w hW) hr
  have s : ∀ k, k < 6 → μ1.1 W k = 0 := fun k hk => by
    rw [e2.2 W (by omega)]
    have : k = 0 ∨ k = 1 ∨ k = 2 ∨ k = 3 ∨ k = 4 ∨ k = 5 := by omega
    show up2 (up2 (up2 (up2 (up2 (up2 μ.1 W 0 0) W 1 0) W 2 0) W 3 0) W 4 0) W 5 0 W k = 0
    rcases this with rfl | rfl | rfl | rfl | rfl | rfl <;> simp [up2]
  refine ⟨μ1, ?_, (gu.wk (fun b q => by omega)).tr (e2.wk (fun b q => by omega)), s 0 (by decide), s 1 (by decide), s 2 (by decide), s 3 (by decide), s 4 (by decide), s 5 (by decide), fun j hj => absurd hj (Nat.not_lt_zero _), fun j hj => absurd hj (Nat.not_lt_zero _), fun i hi => e3 i hi, e4, e5⟩
  unfold f_X4_clear
  rw [bM_s, bM_s, bM_s, bM_s, bM_s, bM_s]
  show bR (μ.2 W 10) _ = _
  rw [rd hr (rt_w10 P Q hW), bR_s, e1, bV_s]
theorem readInto_eq {P Q W : Nat} {T : Tx} {μ : Mm} (hW : W = 3 ∨ W = 11) (hr : μ.2 = RFt P Q) (c : CT μ T) : ∃ x μ', f_X7_readInto μ 1 W = some (x, μ') ∧ Ag μ μ' (XW W) ∧ EndC μ' W x (hsF T T.1 D0 (sk T 0)) := by
  obtain ⟨μ1, e1, e2, e3⟩ := hclear_eq hW hr
  have hr1 := e2.1.trans hr
  have gu : Ag μ1 (up2 (up2 (up2 μ1.1 1 3 0) 1 2 (-1)) 1 4 0, μ1.2) X1 := ((Ag.up (X := X1) rfl).u1 rfl).u1 rfl
  have g0 : GD (up2 (up2 (up2 μ1.1 1 3 0) 1 2 (-1)) 1 4 0, μ1.2) T 0 := ⟨c.cg (by show μ1.1 1 1 = _; rw [e2.2 1 (by omega)]) (by show μ1.1 2 = _; rw [e2.2 2 (by omega)]), rfl, rfl, rfl, Nat.zero_le _⟩
  obtain ⟨μ2, d1, d2, d3⟩ := g0.skp (P := P) (Q := Q) hr1
  have h240 := c.1
  obtain ⟨x, μ3, l1, l2, l3⟩ := into_loop (P := P) (Q := Q) hW T.1 0 (sk T 0) FU D0 μ2 (d2.1.trans hr1) d3 ((e3.x1 hW gu).x1 hW d2) D0_ok (by omega) (Nat.zero_le _) (by rw [FU_eq]; omega)
  refine ⟨x, μ3, ?_, (((e2.wk (fun b q => Or.inr (by omega))).tr (gu.wk (fun b q => Or.inl q))).tr (d2.wk (fun b q => Or.inl q))).tr l2, l3⟩
  unfold f_X7_readInto
  rw [e1, bV_s, bM_s, bM_s, bM_s, d1, bV_s]
  exact l1
