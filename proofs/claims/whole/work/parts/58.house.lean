/-! house, both -/
def tx (σ : St) : Tx := (σ.2 0 2, σ.2 1)
def rdH (σ : St) : Sum (Nat × Nat) Dr := hsF (tx σ) (tx σ).1 D0 (sk (tx σ) 0)
def nwN (N : Nat → Nat → Nat) : Nat → Nat → Nat := setr (up2 (up2 (up2 (up2 (up2 N 0 0 0) 0 5 0) 0 2 0) 0 3 0) 0 4 0) 6 (fun _ => 0)
theorem img_loop {P Q f : Nat} {μ : Mm} (hr : μ.2 = RFt P Q) : f_X9_moveIn_L30 (f + 3) μ 0 0 = some (up2 (up2 μ.1 99 2 0) 103 2 0, μ.2) := by
  show f_X9_moveIn_L30b (f_X9_moveIn_L30 (f + 2)) μ 0 0 = _
  unfold f_X9_moveIn_L30b f_X9_moveIn_j54
  rw [rd hr (rt_0_6 P Q), bR_s, if_neg (show ¬ Int32.ofNat (ln 84) ≤ (0 : Int32) by decide), show f_X9_imageAt μ 0 0 = some (some 99, μ) from image_t (i := 0) hr (by decide), bC_s, bN_s, bM_s]
  show f_X9_moveIn_L30b (f_X9_moveIn_L30 (f + 1)) (up2 μ.1 99 2 0, μ.2) 0 1 = _
  unfold f_X9_moveIn_L30b f_X9_moveIn_j54
  have hr1 : (up2 μ.1 99 2 0, μ.2).2 = RFt P Q := hr
  rw [rd hr1 (rt_0_6 P Q), bR_s, if_neg (show ¬ Int32.ofNat (ln 84) ≤ (1 : Int32) by decide), show f_X9_imageAt (up2 μ.1 99 2 0, μ.2) 0 1 = some (some 103, (up2 μ.1 99 2 0, μ.2)) from image_t (i := 1) hr1 (by decide), bC_s, bN_s, bM_s]
  show f_X9_moveIn_L30b (f_X9_moveIn_L30 f) (up2 (up2 μ.1 99 2 0) 103 2 0, μ.2) 0 2 = _
  unfold f_X9_moveIn_L30b
  have hr2 : (up2 (up2 μ.1 99 2 0) 103 2 0, μ.2).2 = RFt P Q := hr
  rw [rd hr2 (rt_0_6 P Q), bR_s, if_pos (show Int32.ofNat (ln 84) ≤ (2 : Int32) by decide)]
theorem move_c {P Q : Nat} {μ : Mm} {D : Dr} (hP : P = 3 ∨ P = 11) (hr : μ.2 = RFt P Q) (c : CD μ P D) (d : DOK D) (N : Nat → Nat → Nat) (U M : Nat → Bt) (hs : μ.1 85 0 = nI (N 0 1)) (ht : μ.1 1 1 = 0) :
    ∃ μ', f_X9_moveIn μ 0 = some μ' ∧ Ag μ μ' (fun a => 19 ≤ a ∧ a ≤ 106) ∧ CA P μ' (hD D) (bD D) U M (nwN N) := by
  obtain ⟨μ1, e1, e2, e3⟩ := copy_eq (a := 19) (c := P + 5) (P := P) (Q := Q) bal_19 (bal_w hP) (Or.inr (by omega)) hr
  have hr1 := e2.1.trans hr
  have g2 : Ag μ1 (up2 (up2 (up2 (up2 (up2 (up2 μ1.1 22 1 0) 22 2 0) 86 4 0) 86 5 0) 99 2 0) 103 2 0, μ1.2) (fun a => a = 22 ∨ a = 86 ∨ a = 99 ∨ a = 103) := (((((Ag.up (X := fun a => a = 22 ∨ a = 86 ∨ a = 99 ∨ a = 103) (Or.inl rfl)).u1 (Or.inl rfl)).u1 (Or.inr (Or.inl rfl))).u1 (Or.inr (Or.inl rfl))).u1 (Or.inr (Or.inr (Or.inl rfl)))).u1 (Or.inr (Or.inr (Or.inr rfl)))
  have gA : Ag μ (up2 (up2 (up2 (up2 (up2 (up2 μ1.1 22 1 0) 22 2 0) 86 4 0) 86 5 0) 99 2 0) 103 2 0, μ1.2) (fun a => 19 ≤ a ∧ a ≤ 106) := (e2.wk (fun a q => by omega)).tr (g2.wk (fun a q => by omega))
  refine ⟨_, ?_, gA, (c.ch d).cg hP (fun a h1 h2 => gA.2 a (by omega)), (e3 _ _ (c.cb d)).cg (g2.2 19 (by decide)) (g2.2 20 (by decide)) (g2.2 21 (by decide)), ⟨rfl, rfl, fun j hj => absurd hj (Nat.not_lt_zero _)⟩, ?_, ⟨?_, fun j hj => absurd hj (Nat.not_lt_zero _)⟩, ⟨rfl, fun j hj => absurd hj (Nat.not_lt_zero _)⟩, ⟨rfl, fun j hj => absurd hj (Nat.not_lt_zero _)⟩, fun i hi => ?_⟩
  · unfold f_X9_moveIn f_X3_clear f_X6_clear
    rw [rd hr (rt_0_4 P Q), bR_s, rd hr (rt_p P Q), bR_s, rd hr (rt_w10 P Q hP), bR_s, e1, bV_s, rd hr1 (rt_0_5 P Q), bR_s, bM_s, bM_s, bV_s]
    dsimp only
    rw [rd hr1 (rt_0_8 P Q), bR_s, bM_s, bM_s, bV_s]
    exact img_loop (P := P) (Q := Q) (f := 997) (μ := (up2 (up2 (up2 (up2 μ1.1 22 1 0) 22 2 0) 86 4 0) 86 5 0, μ1.2)) hr1
  · rw [g2.2 85 (by decide), e2.2 85 (by decide)]
    exact hs
  · rw [g2.2 1 (by decide), e2.2 1 (by decide)]
    exact ht
  · have : i = 0 ∨ i = 1 := by omega
    rcases this with rfl | rfl
    · exact ⟨rfl, fun w => absurd (show (0 : Nat) = 1 from w) (by decide)⟩
    · exact ⟨rfl, fun w => absurd (show (0 : Nat) = 1 from w) (by decide)⟩
theorem HY.q {σ : St} {P Q : Nat} {μ : Mm} (y : HY σ P Q μ) : Q = 3 ∨ Q = 11 := by
  rcases y.1 with q | q
  · exact Or.inr q.2
  · exact Or.inl q.2
theorem house_c {σ : St} {P Q : Nat} {μ : Mm} (y : HY σ P Q μ) : ∃ r μ1, f_X9_house μ 0 = some (r, μ1) ∧ (∀ a, 107 ≤ a → μ1.1 a = μ.1 a) ∧ (match rdH σ with
      | Sum.inl e => r = -10 - nI e.1 ∧ μ1.2 = RFt P Q ∧ μ1.1 0 3 = nI e.2 ∧ CA P μ1 (sH σ) (sB σ) (sU σ) (sM σ) (up2 σ.2 0 2 0)
      | Sum.inr D => r = nI (hN D.1) ∧ μ1.2 = RFt Q P ∧ μ1.1 0 3 = -1 ∧ CA Q μ1 (hD D) (bD D) (sU σ) (sM σ) (nwN σ.2)) := by
  have hr := y.2.1
  have hPQ := y.1
  obtain ⟨o1, o2, o3, o4, o5, o6, o7, o8, o9⟩ := y.2.2.1
  have ct : CT μ (tx σ) := ⟨o6.1, o6.2, y.ca.2.2.2.2.1⟩
  obtain ⟨x, μ1, e1, e2, e3⟩ := readInto_eq (P := P) (Q := Q) (W := Q) y.q hr ct
  have hr1 : μ1.2 = RFt P Q := e2.1.trans hr
  have gu : Ag μ1 (up2 μ1.1 0 3 (μ1.1 1 2), μ1.2) (fun a => a = 0) := Ag.up rfl
  have gA : Ag μ (up2 μ1.1 0 3 (μ1.1 1 2), μ1.2) (fun a => a = 0 ∨ a = 1 ∨ (Q ≤ a ∧ a ≤ Q + 7)) := (e2.wk (fun a q => Or.inr q)).tr (gu.wk (fun a q => Or.inl q))
  have e3 : EndC μ1 Q x (rdH σ) := e3
  unfold f_X9_house
  rw [rd hr (rt_0_0 P Q), bR_s, rd hr (rt_d P Q), bR_s, e1, bC_s, rd hr1 (rt_0_0 P Q), bR_s, bM_s]
  dsimp only
  rcases h : rdH σ with e | D
  · rw [h] at e3
    obtain ⟨h11, hfl, hx, h12⟩ := e3
    rw [if_neg (show ¬ x = 0 by rw [hx]; exact nI_ne0 hfl.1 (by omega))]
    obtain ⟨c1, c2, c3, c4, c5, c6, c7, c8⟩ := y.ca
    refine ⟨_, _, rfl, fun a ha => gA.2 a (by omega), by rw [hx], hr1, h12, c1.ag gA (by omega) (by omega) (by omega) (by omega) (by omega), c2.cg (gA.2 19 (by omega)) (gA.2 20 (by omega)) (gA.2 21 (by omega)), c3.cg (fun a h1 h2 => gA.2 a (by omega)), ?_, ⟨h11, fun j hj => absurd hj (Nat.not_lt_zero _)⟩, c6.cg (by rw [gA.2 86 (by omega)]) (gA.2 87 (by omega)) (gA.2 88 (by omega)), c7.cg (by rw [gA.2 86 (by omega)]) (gA.2 89 (by omega)) (gA.2 90 (by omega)), c8.cg (fun a h1 h2 => gA.2 a (by omega))⟩
    rw [gA.2 85 (by omega)]
    exact c4
  · rw [h] at e3
    obtain ⟨h11, hx, h12, hc⟩ := e3
    have hd : DOK D := hsF_i _ _ _ _ h D0_ok
    rw [if_pos hx, rd hr1 (rt_p P Q), bR_s, rd hr1 (rt_d P Q), bR_s, bM_s, bM_s]
    have hr2 : ((up2 μ1.1 0 3 (μ1.1 1 2), up2 (up2 μ1.2 0 1 (some Q)) 0 2 (some P)) : Mm).2 = RFt Q P := by
      show up2 (up2 μ1.2 0 1 (some Q)) 0 2 (some P) = _
      rw [hr1]
      exact RFt_swap P Q
    obtain ⟨μ2, d1, d2, d3⟩ := move_c (P := Q) (Q := P) (μ := (up2 μ1.1 0 3 (μ1.1 1 2), up2 (up2 μ1.2 0 1 (some Q)) 0 2 (some P))) (D := D) y.q hr2 (hc.cg (fun a h1 h2 => gu.2 a (by have := y.q; omega))) hd σ.2 (sU σ) (sM σ) (by
      exact (congrFun (gA.2 85 (by omega)) 0).trans y.ca.2.2.2.1) h11
    have hr3 : μ2.2 = RFt Q P := d2.1.trans hr2
    show ∃ r μ9, bV (f_X9_moveIn (up2 μ1.1 0 3 (μ1.1 1 2), up2 (up2 μ1.2 0 1 (some Q)) 0 2 (some P)) 0) _ = some (r, μ9) ∧ _
    rw [d1, bV_s, rd hr3 (rt_p Q P), bR_s]
    refine ⟨_, _, rfl, fun a ha => (d2.2 a (by omega)).trans (gA.2 a (by omega)), d3.1.2.2.2.1, hr3, ?_, d3⟩
    rw [d2.2 0 (by omega)]
    exact h12
