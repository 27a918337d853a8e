/-! keep, goBack -/
theorem rt_84 {i : Nat} (P Q : Nat) (hi : i < 2) : RFt P Q 84 i = some (99 + 4 * i) := by
  have : i = 0 ∨ i = 1 := by omega
  rcases this with rfl | rfl
  · exact rt_84_0 P Q
  · exact rt_84_1 P Q
theorem rt_im {i : Nat} (P Q : Nat) (hi : i < 2) : RFt P Q (99 + 4 * i) 0 = some (100 + 4 * i) := by
  have : i = 0 ∨ i = 1 := by omega
  rcases this with rfl | rfl
  · exact rt_99_0 P Q
  · exact rt_103_0 P Q
theorem bal_im {i : Nat} (hi : i < 2) : BalA (100 + 4 * i) := by
  have : i = 0 ∨ i = 1 := by omega
  rcases this with rfl | rfl
  · exact bal_100
  · exact bal_104
theorem image_t {P Q i : Nat} {μ : Mm} (hr : μ.2 = RFt P Q) (hi : i < 2) : f_X9_imageAt μ 0 (nI i) = some (some (99 + 4 * i), μ) := by
  unfold f_X9_imageAt
  rw [if_neg (nI_pos (by omega)), rd hr (rt_0_6 P Q), bR_s, bR_s, if_neg (show ¬ Int32.ofNat (ln 84) ≤ nI i from nI_ge (show i < 2 from hi) (by decide)), ckb_n (show i < ln 84 from hi) (by decide), gd_t, nI_clamp (by omega), rd hr (rt_84 P Q hi), bR_s]
theorem image_f {P Q : Nat} {μ : Mm} {x : Int32} (hr : μ.2 = RFt P Q) (hx : ¬ inI x 2 = true) : f_X9_imageAt μ 0 x = some (none, μ) := by
  unfold f_X9_imageAt
  by_cases c : x < 0
  · rw [if_pos c]
  · rw [if_neg c, rd hr (rt_0_6 P Q), bR_s, bR_s]
    have h1 : ¬ x.toInt < 0 := fun q => c ((lt0_iff x).mpr q)
    have h2 : ¬ (0 ≤ x.toInt ∧ x.toInt < (2 : Nat)) := fun q => hx (decide_eq_true q)
    rw [if_pos (show Int32.ofNat (ln 84) ≤ x by
      show nI 2 ≤ x
      rw [Int32.le_iff_toInt_le, nI_toInt (by decide)]
      omega)]
def putB (M : Nat → Bt) (i : Nat) (b : Bt) : Nat → Bt := fun j => if j = i then b else M j
theorem keep_c {P Q i : Nat} {μ : Mm} {h : Hs} {b : Bt} {U M : Nat → Bt} {N : Nat → Nat → Nat} (c : CA P μ h b U M N) (hP : P = 3 ∨ P = 11) (hr : μ.2 = RFt P Q) (hi : i < 2) :
    ∃ μ', f_X9_keep μ 0 (nI i) = some (1, μ') ∧ Ag μ μ' XC ∧ CA P μ' h b U (putB M i b) (up2 (up2 (setr (setr N 6 (put (N 6) i 1)) 7 (put (N 7) i (N 0 1))) 0 0 0) 0 5 0) := by
  obtain ⟨μ1, e1, e2, e3⟩ := copy_eq (a := 100 + 4 * i) (c := 19) (bal_im hi) bal_19 (Or.inr (by omega)) hr
  have hr1 : μ1.2 = RFt P Q := e2.1.trans hr
  have hcb := e3 h b c.2.1
  have h85 : μ1.1 85 0 = nI (N 0 1) := by rw [e2.2 85 (by omega)]; exact c.2.2.2.1
  have g2 : Ag μ1 (up2 (up2 μ1.1 (99 + 4 * i) 1 (nI (N 0 1))) (99 + 4 * i) 2 1, μ1.2) (fun a => a = 99 + 4 * i) := (Ag.up (X := fun a => a = 99 + 4 * i) rfl).u1 rfl
  have gA : Ag μ (up2 (up2 μ1.1 (99 + 4 * i) 1 (nI (N 0 1))) (99 + 4 * i) 2 1, μ1.2) (fun a => 99 + 4 * i ≤ a ∧ a ≤ 102 + 4 * i) := (e2.wk (fun a q => by omega)).tr (g2.wk (fun a q => by omega))
  have c2 := c.im (μ' := (up2 (up2 μ1.1 (99 + 4 * i) 1 (nI (N 0 1))) (99 + 4 * i) 2 1, μ1.2)) (K := put (N 6) i 1) (S := put (N 7) i (N 0 1)) (M' := putB M i b) hP (fun a h1 h2 => gA.2 a (by omega)) (fun j hj => by
    by_cases q : j = i
    · subst q
      rw [put_at, put_at]
      refine ⟨?_, fun _ => ⟨?_, ?_⟩⟩
      · show up2 (up2 μ1.1 (99 + 4 * j) 1 (nI (N 0 1))) (99 + 4 * j) 2 1 (99 + 4 * j) 2 = _
        rw [up2_at]; rfl
      · rw [show putB M j b j = b from if_pos rfl]
        exact hcb.cg (g2.2 _ (by omega)) (g2.2 _ (by omega)) (g2.2 _ (by omega))
      · show up2 (up2 μ1.1 (99 + 4 * j) 1 (nI (N 0 1))) (99 + 4 * j) 2 1 (99 + 4 * j) 1 = _
        rw [up2_nk (by decide), up2_at]
    · rw [put_ne q, put_ne q, show putB M i b j = M j from if_neg q, gA.2 (99 + 4 * j) (by omega)]
      refine ⟨(c.2.2.2.2.2.2.2 j hj).1, fun w => ⟨((c.2.2.2.2.2.2.2 j hj).2 w).1.cg (gA.2 _ (by omega)) (gA.2 _ (by omega)) (gA.2 _ (by omega)), ((c.2.2.2.2.2.2.2 j hj).2 w).2⟩⟩)
  have g3 : Ag (up2 (up2 μ1.1 (99 + 4 * i) 1 (nI (N 0 1))) (99 + 4 * i) 2 1, μ1.2) (up2 (up2 (up2 (up2 μ1.1 (99 + 4 * i) 1 (nI (N 0 1))) (99 + 4 * i) 2 1) 22 1 0) 22 2 0, μ1.2) (fun a => a = 22) := (Ag.up (X := fun a => a = 22) rfl).u1 rfl
  refine ⟨(up2 (up2 (up2 (up2 μ1.1 (99 + 4 * i) 1 (nI (N 0 1))) (99 + 4 * i) 2 1) 22 1 0) 22 2 0, μ1.2), ?_, (gA.wk (fun a q => by omega)).tr (g3.wk (fun a q => by omega)), c2.un hP (fun a _ q => g3.2 a (by omega)) ⟨rfl, rfl, fun j hj => absurd hj (Nat.not_lt_zero _)⟩⟩
  unfold f_X9_keep f_X3_clear
  rw [image_t hr hi, bC_s, bN_s, rd hr (rt_im P Q hi), bR_s, rd hr (rt_0_4 P Q), bR_s, e1, bV_s, rd hr1 (rt_0_7 P Q), bR_s, h85, bM_s, bM_s]
  show bR (μ1.2 0 5) _ = _
  rw [rd hr1 (rt_0_5 P Q), bR_s, bM_s, bM_s, bV_s]
theorem kcp_loop {P Q i : Nat} (hi : i < 2) : ∀ (m k f : Nat) (μ : Mm), k + m = 37 → m < f → μ.2 = RFt P Q →
    ∃ μ', f_X10_keep_L15 f μ 107 (nI i) (nI k) = some (1, μ') ∧ Ag μ μ' (fun a => a = 107 ∨ a = 129 ∨ a = 130) ∧ (∀ k', k' ≠ 27 → μ'.1 107 k' = μ.1 107 k') ∧ μ'.1 107 27 = 0 ∧ (∀ j, μ'.1 129 j = if 38 * i + k ≤ j ∧ j < 38 * i + 37 then μ.1 112 (j - 38 * i) else if j = 38 * i + 37 then μ.1 107 9 else μ.1 129 j) ∧ ∀ j, μ'.1 130 j = if j = i then 1 else μ.1 130 j := by
  intro m
  induction m with
  | zero =>
    intro k f μ hm hf hr
    obtain ⟨f, rfl⟩ := fs1 hf
    refine ⟨(up2 (up2 (up2 μ.1 129 (38 * i + 37) (μ.1 107 9)) 130 i 1) 107 27 0, μ.2), ?_, ((Ag.up (X := fun a => a = 107 ∨ a = 129 ∨ a = 130) (Or.inr (Or.inl rfl))).u1 (Or.inr (Or.inr rfl))).u1 (Or.inl rfl), fun k' hk => ?_, rfl, fun j => ?_, fun j => ?_⟩
    · show f_X10_keep_L15b _ _ _ _ _ = _
      unfold f_X10_keep_L15b
      rw [show k = 37 by omega, if_pos (by decide), rd hr (rt_107_37 P Q), bR_s, show (38 : Int32) * nI i + (37 : Int32) = nI (38 * i + 37) from nI_38 i 37, ckb_n (show 38 * i + 37 < ln 129 by show _ < 76; omega) (by decide), gd_t, nI_clamp (by omega), bM_s]
      show bR (μ.2 107 38) _ = _
      rw [rd hr (rt_107_38 P Q), bR_s, ckb_n (show i < ln 130 from hi) (by decide), gd_t, nI_clamp (by omega), bM_s, bM_s]
    · show up2 (up2 (up2 μ.1 129 (38 * i + 37) (μ.1 107 9)) 130 i 1) 107 27 0 107 k' = _
      rw [up2_nk hk, up2_na (by decide), up2_na (by decide)]
    · show up2 μ.1 129 (38 * i + 37) (μ.1 107 9) 129 j = _
      rw [if_neg (by omega)]
      by_cases q : j = 38 * i + 37
      · rw [if_pos q, q, up2_at]
      · rw [if_neg q, up2_nk q]
    · show up2 (up2 μ.1 129 (38 * i + 37) (μ.1 107 9)) 130 i 1 130 j = _
      by_cases q : j = i
      · rw [if_pos q, q, up2_at]
      · rw [if_neg q, up2_nk q]
        rfl
  | succ m ih =>
    intro k f μ hm hf hr
    obtain ⟨f, rfl⟩ := fs1 hf
    have g : Ag μ (up2 μ.1 129 (38 * i + k) (μ.1 112 k), μ.2) (fun a => a = 107 ∨ a = 129 ∨ a = 130) := Ag.up (Or.inr (Or.inl rfl))
    obtain ⟨μ', e1, e2, e3, e4, e5, e6⟩ := ih (k + 1) f (up2 μ.1 129 (38 * i + k) (μ.1 112 k), μ.2) (by omega) (by omega) hr
    refine ⟨μ', ?_, g.tr e2, fun k' hk => e3 k' hk, e4, fun j => ?_, fun j => e6 j⟩
    · show f_X10_keep_L15b _ _ _ _ _ = _
      unfold f_X10_keep_L15b
      rw [if_neg (show ¬ (37 : Int32) ≤ nI k from nI_ge (b := 37) (by omega) (by omega)), rd hr (rt_107_37 P Q), bR_s, rd hr (rt_107_8 P Q), bR_s, ckb_n (show k < ln 112 by show k < 37; omega) (by decide), gd_t, nI_38, ckb_n (show 38 * i + k < ln 129 by show _ < 76; omega) (by decide), gd_t, bM_s, nI_clamp (by omega), nI_clamp (by omega), nI_p1]
      exact e1
    · rw [e5 j]
      show (if 38 * i + (k + 1) ≤ j ∧ j < 38 * i + 37 then μ.1 112 (j - 38 * i) else if j = 38 * i + 37 then μ.1 107 9 else up2 μ.1 129 (38 * i + k) (μ.1 112 k) 129 j) = _
      by_cases q : j = 38 * i + k
      · rw [if_neg (by omega), if_neg (by omega), if_pos (by omega), q, up2_at, show 38 * i + k - 38 * i = k by omega]
      · rw [up2_nk q]
        by_cases r : 38 * i + k ≤ j ∧ j < 38 * i + 37
        · rw [if_pos r, if_pos (by omega)]
        · rw [if_neg r, if_neg (by omega)]
theorem st_keep : Sp1 Inv f_X9_keep f_X10_keep := by
  intro μ x hI
  obtain ⟨σ, P, Q, y⟩ := id hI
  have hr := y.2.1
  have hM7 := y.hk.2.2.2.1
  obtain ⟨o1, o2, o3, o4, o5, o6, o7, o8, o9⟩ := y.2.2.1
  by_cases c : inI x 2 = true
  · obtain ⟨i, hi, rfl⟩ := inI_j c (by decide)
    obtain ⟨μ1, e1, e2, e3⟩ := keep_c y.ca y.p hr hi
    have hr1 := e2.1.trans hr
    have m0 := y.ma1 e2
    obtain ⟨μ2, d1, d2, d3, d4, d5, d6⟩ := kcp_loop hi 37 0 FU μ1 (by omega) (by rw [FU_eq]; omega) hr1
    have mU := m0.un (μ' := (up2 μ1.1 107 27 0, μ1.2)) (ul := 0) (nx := 0) (U' := sU σ) (fun a h1 h2 => up2_ne (by omega)) (fun k hk => up2_nk hk) ⟨rfl, fun j hj => absurd hj (Nat.not_lt_zero _)⟩
    have mA := mU.im (μ' := μ2) (K := put (σ.2 6) i 1) (S := put (σ.2 7) i (σ.2 0 1)) (M' := putB (sM σ) i (sB σ)) (fun a h1 h2 => (d2.2 a (by omega)).trans (up2_ne (show a ≠ 107 by omega)).symm) (fun k hk => by
      by_cases q : k = 27
      · rw [q, d4]; rfl
      · rw [d3 k q]; exact (up2_nk q).symm) (fun j hj => by
      rw [d6 j]
      by_cases q : j = i
      · subst q
        rw [if_pos rfl, put_at, put_at, show putB (sM σ) j (sB σ) j = sB σ from if_pos rfl]
        refine ⟨rfl, fun _ => ⟨m0.2.1.mv hM7 (fun t ht => ?_), ?_⟩⟩
        · rw [d5, if_pos (by omega), show 38 * j + t - 38 * j = 0 + t by omega]
        · rw [d5, if_neg (by omega), if_pos rfl]
          exact m0.2.2.2.1
      · rw [if_neg q, put_ne q, put_ne q, show putB (sM σ) i (sB σ) j = sM σ j from if_neg q]
        refine ⟨(m0.2.2.2.2.2.2.2 j hj).1, fun w => ⟨((m0.2.2.2.2.2.2.2 j hj).2 w).1.mv hM7 (fun t ht => ?_), ?_⟩⟩
        · rw [d5, if_neg (by omega), if_neg (by omega)]
        · rw [d5, if_neg (by omega), if_neg (by omega)]
          exact ((m0.2.2.2.2.2.2.2 j hj).2 w).2)
    have hN : setr (setr (up2 (up2 σ.2 0 0 0) 0 5 0) 6 (put (σ.2 6) i 1)) 7 (put (σ.2 7) i (σ.2 0 1)) = up2 (up2 (setr (setr σ.2 6 (put (σ.2 6) i 1)) 7 (put (σ.2 7) i (σ.2 0 1))) 0 0 0) 0 5 0 := by
      funext a k
      unfold setr up2
      by_cases q7 : a = 7
      · simp [q7]
      · by_cases q6 : a = 6
        · simp [q6]
        · simp [q7, q6]
    rw [hN] at mA
    have y2 := y.step e2 e3 (d2.wk (fun a q => by omega)) (d3 12 (by decide)) mA ⟨o1, o2, ⟨Nat.zero_le _, fun j hj => absurd hj (Nat.not_lt_zero _)⟩, show 0 < 20 by decide, o5, o6, o7, o8, fun j hj => by
      show put (σ.2 6) i 1 j ≤ 1 ∧ (put (σ.2 6) i 1 j = 1 → bok (sH σ) (putB (sM σ) i (sB σ) j) ∧ put (σ.2 7) i (σ.2 0 1) j < 2 ^ 31)
      by_cases q : j = i
      · subst q
        rw [put_at, put_at, show putB (sM σ) j (sB σ) j = sB σ from if_pos rfl]
        exact ⟨Nat.le_refl _, fun _ => ⟨o2, o5⟩⟩
      · rw [put_ne q, put_ne q, show putB (sM σ) i (sB σ) j = sM σ j from if_neg q]
        exact o9 j hj⟩
    refine ⟨_, μ1, μ2, e1, ?_, y2.i⟩
    unfold f_X10_keep
    rw [in_lit μ1 _ 1 1 rfl (by decide), bC_s, if_neg (bz_t c)]
    exact d1
  · unfold f_X9_keep f_X10_keep
    rw [image_f hr c, bC_s, bN_n]
    refine ⟨_, μ, μ, rfl, ?_, hI⟩
    rw [in_lit μ x 1 1 rfl (by decide), bC_s, if_pos (bz_f (by simpa using c))]
theorem back2_c {P Q i : Nat} {μ : Mm} {h : Hs} {b : Bt} {U M : Nat → Bt} {N : Nat → Nat → Nat} (c : CA P μ h b U M N) (hP : P = 3 ∨ P = 11) (hr : μ.2 = RFt P Q) (hi : i < 2) (hK : N 6 i = 1) :
    ∃ μ', f_X9_goBack μ 0 (nI i) = some (1, μ') ∧ Ag μ μ' XC ∧ CA P μ' h (M i) U M (up2 (up2 (up2 N 0 1 (N 7 i)) 0 0 0) 0 5 0) := by
  obtain ⟨k1, k2⟩ := c.2.2.2.2.2.2.2 i hi
  obtain ⟨kb, ks⟩ := k2 hK
  obtain ⟨μ1, e1, e2, e3⟩ := copy_eq (a := 19) (c := 100 + 4 * i) bal_19 (bal_im hi) (Or.inl (by omega)) hr
  have hr1 : μ1.2 = RFt P Q := e2.1.trans hr
  have c1 := c.bl hP (fun a _ q => e2.2 a q) (e3 h (M i) kb)
  have hs : μ1.1 (99 + 4 * i) 1 = nI (N 7 i) := by rw [e2.2 _ (by omega)]; exact ks
  have g2 : Ag μ1 (up2 μ1.1 85 0 (nI (N 7 i)), μ1.2) (fun a => a = 85) := Ag.up rfl
  have c2 := c1.sd (μ' := (up2 μ1.1 85 0 (nI (N 7 i)), μ1.2)) hP (fun a _ q => g2.2 a q) (v := N 7 i) rfl
  have g3 : Ag (up2 μ1.1 85 0 (nI (N 7 i)), μ1.2) (up2 (up2 (up2 μ1.1 85 0 (nI (N 7 i))) 22 1 0) 22 2 0, μ1.2) (fun a => a = 22) := (Ag.up (X := fun a => a = 22) rfl).u1 rfl
  refine ⟨(up2 (up2 (up2 μ1.1 85 0 (nI (N 7 i))) 22 1 0) 22 2 0, μ1.2), ?_, ((e2.wk (fun a q => by omega)).tr (g2.wk (fun a q => by omega))).tr (g3.wk (fun a q => by omega)), c2.un hP (fun a _ q => g3.2 a (by omega)) ⟨rfl, rfl, fun j hj => absurd hj (Nat.not_lt_zero _)⟩⟩
  unfold f_X9_goBack f_X3_clear
  rw [image_t hr hi, bC_s, bN_s, k1, hK, if_neg (by decide), rd hr (rt_0_4 P Q), bR_s, rd hr (rt_im P Q hi), bR_s, e1, bV_s, rd hr1 (rt_0_7 P Q), bR_s, hs, bM_s]
  show bR (μ1.2 0 5) _ = _
  rw [rd hr1 (rt_0_5 P Q), bR_s, bM_s, bM_s, bV_s]
theorem bcp_loop {P Q i : Nat} (hi : i < 2) : ∀ (m k f : Nat) (μ : Mm), k + m = 37 → m < f → μ.2 = RFt P Q →
    ∃ μ', f_X10_goBack_L27 f μ 107 (nI i) (nI k) = some (1, μ') ∧ Ag μ μ' (fun a => a = 107 ∨ a = 112) ∧ (∀ k', k' ≠ 27 → k' ≠ 9 → μ'.1 107 k' = μ.1 107 k') ∧ μ'.1 107 27 = 0 ∧ μ'.1 107 9 = μ.1 129 (38 * i + 37) ∧ (∀ j, μ'.1 112 j = if k ≤ j ∧ j < 37 then μ.1 129 (38 * i + j) else μ.1 112 j) := by
  intro m
  induction m with
  | zero =>
    intro k f μ hm hf hr
    obtain ⟨f, rfl⟩ := fs1 hf
    refine ⟨(up2 (up2 μ.1 107 9 (μ.1 129 (38 * i + 37))) 107 27 0, μ.2), ?_, (Ag.up (X := fun a => a = 107 ∨ a = 112) (Or.inl rfl)).u1 (Or.inl rfl), fun k' hk hk2 => ?_, rfl, rfl, fun j => ?_⟩
    · show f_X10_goBack_L27b _ _ _ _ _ = _
      unfold f_X10_goBack_L27b
      rw [show k = 37 by omega, if_pos (by decide), rd hr (rt_107_37 P Q), bR_s, show (38 : Int32) * nI i + (37 : Int32) = nI (38 * i + 37) from nI_38 i 37, ckb_n (show 38 * i + 37 < ln 129 by show _ < 76; omega) (by decide), gd_t, nI_clamp (by omega), bM_s, bM_s]
    · show up2 (up2 μ.1 107 9 (μ.1 129 (38 * i + 37))) 107 27 0 107 k' = _
      rw [up2_nk hk, up2_nk hk2]
    · show μ.1 112 j = _
      rw [if_neg (by omega)]
  | succ m ih =>
    intro k f μ hm hf hr
    obtain ⟨f, rfl⟩ := fs1 hf
    have g : Ag μ (up2 μ.1 112 k (μ.1 129 (38 * i + k)), μ.2) (fun a => a = 107 ∨ a = 112) := Ag.up (Or.inr rfl)
    obtain ⟨μ', e1, e2, e3, e4, e5, e6⟩ := ih (k + 1) f (up2 μ.1 112 k (μ.1 129 (38 * i + k)), μ.2) (by omega) (by omega) hr
    refine ⟨μ', ?_, g.tr e2, fun k' hk hk2 => e3 k' hk hk2, e4, e5, fun j => ?_⟩
    · show f_X10_goBack_L27b _ _ _ _ _ = _
      unfold f_X10_goBack_L27b
      rw [if_neg (show ¬ (37 : Int32) ≤ nI k from nI_ge (b := 37) (by omega) (by omega)), rd hr (rt_107_8 P Q), bR_s, rd hr (rt_107_37 P Q), bR_s, nI_38, ckb_n (show 38 * i + k < ln 129 by show _ < 76; omega) (by decide), gd_t, ckb_n (show k < ln 112 by show k < 37; omega) (by decide), gd_t, bM_s, nI_clamp (by omega), nI_clamp (by omega), nI_p1]
      exact e1
    · rw [e6 j]
      show (if k + 1 ≤ j ∧ j < 37 then μ.1 129 (38 * i + j) else up2 μ.1 112 k (μ.1 129 (38 * i + k)) 112 j) = _
      by_cases q : j = k
      · rw [if_neg (by omega), if_pos (by omega), q, up2_at]
      · rw [up2_nk q]
        by_cases r : k ≤ j ∧ j < 37
        · rw [if_pos r, if_pos (by omega)]
        · rw [if_neg r, if_neg (by omega)]
theorem st_goBack : Sp1 Inv f_X9_goBack f_X10_goBack := by
  intro μ x hI
  obtain ⟨σ, P, Q, y⟩ := id hI
  have hr := y.2.1
  have hM7 := y.hk.2.2.2.1
  obtain ⟨o1, o2, o3, o4, o5, o6, o7, o8, o9⟩ := y.2.2.1
  by_cases c : inI x 2 = true
  · obtain ⟨i, hi, rfl⟩ := inI_j c (by decide)
    have h1 := (o9 i hi).1
    by_cases q : σ.2 6 i = 1
    · obtain ⟨b1, b2⟩ := (o9 i hi).2 q
      obtain ⟨μ1, e1, e2, e3⟩ := back2_c y.ca y.p hr hi q
      have hr1 := e2.1.trans hr
      have m0 := y.ma1 e2
      obtain ⟨mk1, mk2⟩ := m0.2.2.2.2.2.2.2 i hi
      obtain ⟨mkb, mks⟩ := mk2 q
      obtain ⟨μ2, d1, d2, d3, d4, d5, d6⟩ := bcp_loop hi 37 0 FU μ1 (by omega) (by rw [FU_eq]; omega) hr1
      have mS := m0.sd (μ' := (up2 μ1.1 107 9 (nI (σ.2 7 i)), μ1.2)) (v := σ.2 7 i) (fun a h1 h2 => up2_ne (by omega)) (fun k hk => up2_nk hk) rfl
      have mU := mS.un (μ' := (up2 (up2 μ1.1 107 9 (nI (σ.2 7 i))) 107 27 0, μ1.2)) (ul := 0) (nx := 0) (U' := sU σ) (fun a h1 h2 => up2_ne (by omega)) (fun k hk => up2_nk hk) ⟨rfl, fun j hj => absurd hj (Nat.not_lt_zero _)⟩
      have mA := mU.bl (μ' := μ2) (b' := sM σ i) (fun a h1 h2 => (d2.2 a (by omega)).trans ((up2_ne (show a ≠ 107 by omega)).trans (up2_ne (show a ≠ 107 by omega))).symm) (fun k _ => by
        by_cases z : k = 27
        · rw [z, d4]; rfl
        · by_cases z9 : k = 9
          · rw [z9, d5, mks]; rfl
          · rw [d3 k z z9]; exact ((up2_nk z).trans (up2_nk z9)).symm) (mkb.mv hM7 (fun t ht => by rw [d6, if_pos (by omega), Nat.zero_add]))
      have y2 := y.step e2 e3 (d2.wk (fun a q => by omega)) (d3 12 (by decide) (by decide)) mA ⟨o1, b1, ⟨Nat.zero_le _, fun j hj => absurd hj (Nat.not_lt_zero _)⟩, show 0 < 20 by decide, b2, o6, o7, o8, o9⟩
      refine ⟨_, μ1, μ2, e1, ?_, y2.i⟩
      unfold f_X10_goBack
      rw [in_lit μ1 _ 1 1 rfl (by decide), bC_s, if_neg (bz_t c), rd hr1 (rt_107_38 P Q), bR_s, ckb_n (show i < ln 130 from hi) (by decide), gd_t, nI_clamp (by omega), mk1, q, if_neg (by decide)]
      exact d1
    · have q0 : σ.2 6 i = 0 := by omega
      have hc : μ.1 (99 + 4 * i) 2 = nI (σ.2 6 i) := (y.ca.2.2.2.2.2.2.2 i hi).1
      have hm : μ.1 130 i = nI (σ.2 6 i) := (y.ma.2.2.2.2.2.2.2 i hi).1
      unfold f_X9_goBack f_X10_goBack
      rw [image_t hr hi, bC_s, bN_s, hc, q0, if_pos (show nI 0 = 0 from rfl)]
      refine ⟨_, μ, μ, rfl, ?_, hI⟩
      rw [in_lit μ _ 1 1 rfl (by decide), bC_s, if_neg (bz_t c), rd hr (rt_107_38 P Q), bR_s, ckb_n (show i < ln 130 from hi) (by decide), gd_t, nI_clamp (by omega), hm, q0, if_pos (show nI 0 = 0 from rfl)]
  · unfold f_X9_goBack f_X10_goBack
    rw [image_f hr c, bC_s, bN_n]
    refine ⟨_, μ, μ, rfl, ?_, hI⟩
    rw [in_lit μ x 1 1 rfl (by decide), bC_s, if_pos (bz_f (by simpa using c))]
