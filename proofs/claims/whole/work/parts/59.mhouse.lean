/-! the reference's house -/
def m0s (μ : Mm) : Mm := (up2 (up2 (up2 (up2 (up2 (up2 (up2 μ.1 107 12 (-1)) 107 13 0) 114 0 0) 114 1 0) 107 18 0) 107 19 0) 107 23 0, μ.2)
theorem m0s_rd (μ : Mm) : RdA μ (m0s μ) := by
  refine ⟨rfl, fun a h1 h2 => ?_, fun s hs => ?_⟩
  · show up2 (up2 (up2 (up2 (up2 (up2 (up2 μ.1 107 12 (-1)) 107 13 0) 114 0 0) 114 1 0) 107 18 0) 107 19 0) 107 23 0 a = _
    rw [up2_ne h1, up2_ne h1, up2_ne h1, up2_ne (show a ≠ 114 by omega), up2_ne (show a ≠ 114 by omega), up2_ne h1, up2_ne h1]
  · show up2 (up2 (up2 (up2 (up2 (up2 (up2 μ.1 107 12 (-1)) 107 13 0) 114 0 0) 114 1 0) 107 18 0) 107 19 0) 107 23 0 107 s = _
    rw [up2_nk (by omega), up2_nk (by omega), up2_nk (by omega), up2_na (show (107 : Nat) ≠ 114 by decide), up2_na (show (107 : Nat) ≠ 114 by decide), up2_nk (by omega), up2_nk (by omega)]
theorem m0s_eq {P Q : Nat} {μ : Mm} (hr : μ.2 = RFt P Q) : f_X10_house μ 107 = f_X10_house_L41 FU (m0s μ) 107 0 := by
  unfold f_X10_house
  rw [bM_s, bM_s]
  dsimp only
  rw [rd hr (rt_107_16 P Q), bR_s, ckb114, gd_t, bM_s]
  dsimp only
  rw [rd hr (rt_107_16 P Q), bR_s, show ckb (1 : Int32) (ln 114) = true from rfl, gd_t, bM_s, bM_s, bM_s, bM_s]
  rfl
theorem house_m {P Q : Nat} {σ : St} {μ : Mm} (hr : μ.2 = RFt P Q) (m : MA μ (sH σ) (sB σ) (sU σ) (sM σ) σ.2) (o : OKs σ) : ∃ r μ2, f_X10_house μ 107 = some (r, μ2) ∧ μ2.2 = μ.2 ∧ (∀ a, a < 107 → μ2.1 a = μ.1 a) ∧ (match rdH σ with
      | Sum.inl e => r = -10 - nI e.1 ∧ μ2.1 107 12 = nI e.2 ∧ MA μ2 (sH σ) (sB σ) (sU σ) (sM σ) (up2 σ.2 0 2 0)
      | Sum.inr D => r = nI (hN D.1) ∧ μ2.1 107 12 = -1 ∧ MA μ2 (hD D) (bD D) (sU σ) (sM σ) (nwN σ.2)) := by
  obtain ⟨o1, o2, o3, o4, o5, o6, o7, o8, o9⟩ := o
  have mt : MT (m0s μ) (tx σ) := ⟨o6.1, o6.2, m.2.2.2.2.1.cg rfl rfl⟩
  obtain ⟨x, μ1, l1, l2, l3⟩ := house_L (P := P) (Q := Q) (T := tx σ) (tx σ).1 0 FU D0 (m0s μ) (by rw [FU_eq]; have : (tx σ).1 ≤ 240 := o6.1; omega) hr ⟨mt, rfl, rfl, Nat.zero_le _⟩ ⟨rfl, rfl, rfl, fun j hj => absurd hj (Nat.not_lt_zero _), rfl, fun j hj => absurd hj (Nat.not_lt_zero _), rfl, fun j hj => absurd hj (Nat.not_lt_zero _)⟩ D0_ok (by omega)
  have hr1 : μ1.2 = RFt P Q := l2.1.trans hr
  have ra : RdA μ μ1 := (m0s_rd μ).tr l2
  have l3 : EndM μ1 x (rdH σ) := l3
  rw [m0s_eq hr, l1]
  unfold f_X10_house_j60
  rw [bM_s]
  rcases h : rdH σ with e | D
  · rw [h] at l3
    have l3 : Bd μ1 x e := l3
    obtain ⟨m1, m2, m3, m4, m5, m6, m7, m8⟩ := m
    rw [if_neg l3.nle]
    have hb : ∀ a, a ≠ 107 → ¬ (114 ≤ a ∧ a ≤ 119) → up2 μ1.1 107 11 0 a = μ.1 a := fun a h1 h2 => (up2_ne h1).trans (ra.2.1 a h1 h2)
    have hs : ∀ s, s ≠ 11 → ¬ (12 ≤ s ∧ s ≤ 15 ∨ s = 18 ∨ s = 19 ∨ s = 23) → up2 μ1.1 107 11 0 107 s = μ.1 107 s := fun s h1 h2 => (up2_nk h1).trans (ra.2.2 s h2)
    refine ⟨_, _, rfl, ra.1, fun a ha => hb a (by omega) (by omega), by rw [l3.2.1], l3.2.2, m1.cg (fun k hk => hs k (by omega) (by omega)) (fun a h1 h2 => hb a (by omega) (by omega)), m2.cg (hb 112 (by decide) (by decide)), m3.cg (hs 27 (by decide) (by decide)) (hb 122 (by decide) (by decide)), (hs 9 (by decide) (by decide)).trans m4, ⟨rfl, fun j hj => absurd hj (Nat.not_lt_zero _)⟩, m6.cg (hs 30 (by decide) (by decide)) (hb 124 (by decide) (by decide)) (hb 125 (by decide) (by decide)), m7.cg (hs 34 (by decide) (by decide)) (hb 127 (by decide) (by decide)) (hb 128 (by decide) (by decide)), m8.cg (hb 129 (by decide) (by decide)) (hb 130 (by decide) (by decide))⟩
  · rw [h] at l3
    obtain ⟨hx, h12, hc⟩ := l3
    have hd : DOK D := hsF_i _ _ _ _ h D0_ok
    obtain ⟨μ2, d1, d2, d3, d4, d5⟩ := take_eq (P := P) (Q := Q) (μ := (up2 μ1.1 107 11 0, μ1.2)) hr1 (MX.cg hc (fun a h1 h2 => up2_ne (by omega)) (fun s hs => up2_nk (by omega))) hd
    have hr2 : μ2.2 = RFt P Q := d2.1.trans hr1
    rw [if_pos (show x ≤ 0 by rw [hx]; decide), d1, bV_s, bM_s, bM_s, bM_s]
    dsimp only
    rw [rd hr2 (rt_107_38 P Q), bR_s, show ckb (0 : Int32) (ln 130) = true from rfl, gd_t, bM_s]
    dsimp only
    rw [rd hr2 (rt_107_38 P Q), bR_s, show ckb (1 : Int32) (ln 130) = true from rfl, gd_t, bM_s]
    dsimp only
    have g3 : Ag μ2 (up2 (up2 (up2 (up2 (up2 μ2.1 107 30 0) 107 34 0) 107 27 0) 130 0 0) 130 1 0, μ2.2) (fun a => a = 107 ∨ a = 130) := ((((Ag.up (X := fun a => a = 107 ∨ a = 130) (Or.inl rfl)).u1 (Or.inl rfl)).u1 (Or.inl rfl)).u1 (Or.inr rfl)).u1 (Or.inr rfl)
    have hs : ∀ s, s ≠ 30 → s ≠ 34 → s ≠ 27 → up2 (up2 (up2 (up2 (up2 μ2.1 107 30 0) 107 34 0) 107 27 0) 130 0 0) 130 1 0 107 s = μ2.1 107 s := fun s h1 h2 h3 => by
      rw [up2_na (show (107 : Nat) ≠ 130 by decide), up2_na (show (107 : Nat) ≠ 130 by decide), up2_nk h3, up2_nk h2, up2_nk h1]
    refine ⟨_, (up2 (up2 (up2 (up2 (up2 μ2.1 107 30 0) 107 34 0) 107 27 0) 130 0 0) 130 1 0, μ2.2), rfl, d2.1.trans ra.1, fun a ha => (g3.2 a (by omega)).trans ((d2.2 a (by omega)).trans ((up2_ne (by omega)).trans (ra.2.1 a (by omega) (by omega)))), ?_, ?_, d4.cg (fun k hk => hs k (by omega) (by omega) (by omega)) (fun a h1 h2 => g3.2 a (by omega)), d5.cg (g3.2 112 (by decide)), ⟨rfl, fun j hj => absurd hj (Nat.not_lt_zero _)⟩, ?_, ⟨?_, fun j hj => absurd hj (Nat.not_lt_zero _)⟩, ⟨rfl, fun j hj => absurd hj (Nat.not_lt_zero _)⟩, ⟨rfl, fun j hj => absurd hj (Nat.not_lt_zero _)⟩, fun i hi => ?_⟩
    · exact (hs 3 (by decide) (by decide) (by decide)).trans d4.2.2.2.1
    · exact (hs 12 (by decide) (by decide) (by decide)).trans ((d3 12 (by decide)).trans h12)
    · exact (hs 9 (by decide) (by decide) (by decide)).trans ((d3 9 (by decide)).trans ((ra.2.2 9 (by decide)).trans m.2.2.2.1))
    · exact (hs 11 (by decide) (by decide) (by decide)).trans (d3 11 (by decide))
    · have : i = 0 ∨ i = 1 := by omega
      rcases this with rfl | rfl
      · exact ⟨rfl, fun w => absurd (show (0 : Nat) = 1 from w) (by decide)⟩
      · exact ⟨rfl, fun w => absurd (show (0 : Nat) = 1 from w) (by decide)⟩
theorem st_house : Sp0 Inv f_X9_house f_X10_house := by
  intro μ hI
  obtain ⟨σ, P, Q, y⟩ := id hI
  obtain ⟨o1, o2, o3, o4, o5, o6, o7, o8, o9⟩ := id y.2.2.1
  obtain ⟨r, μ1, e1, e2, e3⟩ := house_c y
  have m0 : MA μ1 (sH σ) (sB σ) (sU σ) (sM σ) σ.2 := y.ma.ap e2
  rcases h : rdH σ with e | D
  · rw [h] at e3
    obtain ⟨a1, a2, a3, a4⟩ := e3
    obtain ⟨r2, μ2, d1, d2, d3, d4⟩ := house_m a2 m0 y.2.2.1
    rw [h] at d4
    obtain ⟨b1, b2, b3⟩ := d4
    refine ⟨r, μ1, μ2, e1, by rw [d1, b1, a1], ((sH σ, (sB σ, (sU σ, sM σ))), up2 σ.2 0 2 0), P, Q, y.1, d2.trans a2, ⟨o1, o2, o3, o4, o5, ⟨Nat.zero_le _, fun j hj => absurd hj (Nat.not_lt_zero _)⟩, o7, o8, o9⟩, a4.ap y.p d3, b3, ?_⟩
    rw [d3 0 (by decide), a3, b2]
  · rw [h] at e3
    obtain ⟨a1, a2, a3, a4⟩ := e3
    obtain ⟨r2, μ2, d1, d2, d3, d4⟩ := house_m a2 m0 y.2.2.1
    rw [h] at d4
    obtain ⟨b1, b2, b3⟩ := d4
    have hd : DOK D := hsF_i _ _ _ _ h D0_ok
    refine ⟨r, μ1, μ2, e1, by rw [d1, b1, a1], ((hD D, (bD D, (sU σ, sM σ))), nwN σ.2), Q, P, ?_, d2.trans a2, ⟨hD_ok hd, bD_ok hd, ⟨Nat.zero_le _, fun j hj => absurd hj (Nat.not_lt_zero _)⟩, show 0 < 20 by decide, o5, ⟨Nat.zero_le _, fun j hj => absurd hj (Nat.not_lt_zero _)⟩, ⟨Nat.zero_le _, fun j hj => absurd hj (Nat.not_lt_zero _)⟩, ⟨Nat.zero_le _, fun j hj => absurd hj (Nat.not_lt_zero _)⟩, fun i hi => ⟨Nat.zero_le _, fun w => absurd (show (0 : Nat) = 1 from w) (by decide)⟩⟩, a4.ap y.q d3, b3, ?_⟩
    · rcases y.1 with q | q
      · exact Or.inr ⟨q.2, q.1⟩
      · exact Or.inl ⟨q.2, q.1⟩
    · rw [d3 0 (by decide), a3, b2]
