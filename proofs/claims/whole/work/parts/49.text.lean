/-! the text, read by both -/
abbrev Tx : Type := Nat × (Nat → Nat)
def lc (T : Tx) (k : Nat) : Int32 := if k < T.1 then nI (T.2 k) else -1
def isF (T : Tx) (k : Nat) : Bool := decide (k < T.1 ∧ 48 ≤ T.2 k ∧ T.2 k ≤ 57)
def skF (T : Tx) : Nat → Nat → Nat
  | 0, k => k
  | m + 1, k => if lc T k = 32 then skF T m (k + 1) else k
def sk (T : Tx) (k : Nat) : Nat := skF T T.1 k
def feF (T : Tx) : Nat → Nat → Nat
  | 0, k => k
  | m + 1, k => if isF T k = true then feF T m (k + 1) else k
def fe (T : Tx) (k : Nat) : Nat := feF T T.1 k
def dgt (T : Tx) (k : Nat) : Nat := T.2 k - 48
def nvF (T : Tx) (a : Nat) : Nat → Nat
  | 0 => 0
  | j + 1 => 10 * nvF T a j + dgt T (a + j)
theorem lc_end {T : Tx} {k : Nat} (h : T.1 ≤ k) : lc T k = -1 := if_neg (by omega)
theorem lc_in {T : Tx} {k : Nat} (h : k < T.1) : lc T k = nI (T.2 k) := if_pos h
theorem lc_lt {T : Tx} {k : Nat} {v : Int32} (h : lc T k = v) (hv : v ≠ -1) : k < T.1 := by
  by_cases q : k < T.1
  · exact q
  · rw [lc_end (by omega)] at h
    exact absurd h.symm hv
theorem skF_0 {T : Tx} {k : Nat} (h : T.1 ≤ k) : ∀ m, skF T m k = k
  | 0 => rfl
  | m + 1 => by
    show (if lc T k = 32 then _ else k) = k
    rw [if_neg (by rw [lc_end h]; decide)]
theorem skF_st {T : Tx} : ∀ (m k d : Nat), T.1 ≤ k + m → skF T (m + d) k = skF T m k
  | 0, k, d, h => by rw [skF_0 (by omega), skF_0 (by omega)]
  | m + 1, k, d, h => by
    rw [show m + 1 + d = (m + d) + 1 by omega]
    show (if lc T k = 32 then skF T (m + d) (k + 1) else k) = (if lc T k = 32 then skF T m (k + 1) else k)
    rw [skF_st m (k + 1) d (by omega)]
theorem skF_sk {T : Tx} {m k : Nat} (h : T.1 ≤ m) : skF T m k = sk T k := by
  have := skF_st (T := T) T.1 k (m - T.1) (by omega)
  rw [show T.1 + (m - T.1) = m by omega] at this
  exact this
theorem skF_r {T : Tx} : ∀ (m k : Nat), T.1 ≤ k + m → k ≤ skF T m k ∧ (k ≤ T.1 → skF T m k ≤ T.1) ∧ lc T (skF T m k) ≠ 32
  | 0, k, h => ⟨Nat.le_refl _, fun q => q, by show lc T k ≠ 32; rw [lc_end (by omega)]; decide⟩
  | m + 1, k, h => by
    show k ≤ (if lc T k = 32 then skF T m (k + 1) else k) ∧ (k ≤ T.1 → (if lc T k = 32 then skF T m (k + 1) else k) ≤ T.1) ∧ lc T (if lc T k = 32 then skF T m (k + 1) else k) ≠ 32
    by_cases q : lc T k = 32
    · have hk := lc_lt q (by decide)
      have r := skF_r (T := T) m (k + 1) (by omega)
      rw [if_pos q]
      exact ⟨by omega, fun _ => r.2.1 (by omega), r.2.2⟩
    · rw [if_neg q]
      exact ⟨Nat.le_refl _, fun w => w, q⟩
theorem sk_ge (T : Tx) (k : Nat) : k ≤ sk T k := (skF_r T.1 k (by omega)).1
theorem sk_le {T : Tx} {k : Nat} (h : k ≤ T.1) : sk T k ≤ T.1 := (skF_r T.1 k (by omega)).2.1 h
theorem sk_nb (T : Tx) (k : Nat) : lc T (sk T k) ≠ 32 := (skF_r T.1 k (by omega)).2.2
theorem sk_id {T : Tx} {k : Nat} (h : lc T k ≠ 32) : sk T k = k := by
  unfold sk
  cases T.1 with
  | zero => rfl
  | succ m => exact if_neg h
theorem isF_f {T : Tx} {k : Nat} (h : T.1 ≤ k) : isF T k = false := decide_eq_false (by omega)
theorem feF_0 {T : Tx} {k : Nat} (h : T.1 ≤ k) : ∀ m, feF T m k = k
  | 0 => rfl
  | m + 1 => by
    show (if isF T k = true then _ else k) = k
    rw [isF_f h, if_neg (by decide)]
theorem feF_st {T : Tx} : ∀ (m k d : Nat), T.1 ≤ k + m → feF T (m + d) k = feF T m k
  | 0, k, d, h => by rw [feF_0 (by omega), feF_0 (by omega)]
  | m + 1, k, d, h => by
    rw [show m + 1 + d = (m + d) + 1 by omega]
    show (if isF T k = true then feF T (m + d) (k + 1) else k) = (if isF T k = true then feF T m (k + 1) else k)
    rw [feF_st m (k + 1) d (by omega)]
theorem feF_fe {T : Tx} {m k : Nat} (h : T.1 ≤ m) : feF T m k = fe T k := by
  have := feF_st (T := T) T.1 k (m - T.1) (by omega)
  rw [show T.1 + (m - T.1) = m by omega] at this
  exact this
theorem feF_r {T : Tx} : ∀ (m k : Nat), T.1 ≤ k + m → k ≤ feF T m k ∧ (k ≤ T.1 → feF T m k ≤ T.1) ∧ ∀ j, k ≤ j → j < feF T m k → isF T j = true
  | 0, k, h => ⟨Nat.le_refl _, fun q => q, fun j h1 h2 => absurd h1 (by have : j < k := h2; omega)⟩
  | m + 1, k, h => by
    show k ≤ (if isF T k = true then feF T m (k + 1) else k) ∧ (k ≤ T.1 → (if isF T k = true then feF T m (k + 1) else k) ≤ T.1) ∧ ∀ j, k ≤ j → j < (if isF T k = true then feF T m (k + 1) else k) → isF T j = true
    by_cases q : isF T k = true
    · have hk : k < T.1 := (of_decide_eq_true q).1
      have r := feF_r (T := T) m (k + 1) (by omega)
      rw [if_pos q]
      refine ⟨by omega, fun _ => r.2.1 (by omega), fun j h1 h2 => ?_⟩
      by_cases e : j = k
      · rw [e]; exact q
      · exact r.2.2 j (by omega) h2
    · rw [if_neg q]
      exact ⟨Nat.le_refl _, fun w => w, fun j h1 h2 => absurd h2 (by omega)⟩
theorem fe_ge (T : Tx) (k : Nat) : k ≤ fe T k := (feF_r T.1 k (by omega)).1
theorem fe_le {T : Tx} {k : Nat} (h : k ≤ T.1) : fe T k ≤ T.1 := (feF_r T.1 k (by omega)).2.1 h
theorem fe_in {T : Tx} {k j : Nat} (h1 : k ≤ j) (h2 : j < fe T k) : isF T j = true := (feF_r T.1 k (by omega)).2.2 j h1 h2
theorem dgt_9 {T : Tx} {k : Nat} (h : isF T k = true) : dgt T k ≤ 9 := by
  have := of_decide_eq_true h
  unfold dgt
  omega
theorem nvF_lt {T : Tx} {a : Nat} : ∀ j, (∀ i, i < j → isF T (a + i) = true) → nvF T a j < 10 ^ j
  | 0, _ => Nat.zero_lt_one
  | j + 1, h => by
    have h1 := nvF_lt j (fun i hi => h i (by omega))
    have h2 := dgt_9 (h j (by omega))
    show 10 * nvF T a j + dgt T (a + j) < 10 ^ (j + 1)
    rw [Nat.pow_succ]
    omega
theorem nv5 {T : Tx} {a j : Nat} (h : ∀ i, i < j → isF T (a + i) = true) (hj : j ≤ 5) : nvF T a j < 100000 := Nat.lt_of_lt_of_le (nvF_lt j h) (Nat.pow_le_pow_right (by decide) hj)
/-- a number that is told from k on: the fault and its place, or the number and where it ends -/
def rdN (T : Tx) (lo hi k : Nat) : Sum (Nat × Nat) (Nat × Nat) :=
  if fe T (sk T k) = sk T k then Sum.inl (1, sk T k)
  else if 5 < fe T (sk T k) - sk T k ∨ nvF T (sk T k) (fe T (sk T k) - sk T k) < lo ∨ hi < nvF T (sk T k) (fe T (sk T k) - sk T k) then Sum.inl (2, sk T k)
  else Sum.inr (nvF T (sk T k) (fe T (sk T k) - sk T k), fe T (sk T k))
/-! the class's reader -/
def CT (μ : Mm) (T : Tx) : Prop := T.1 ≤ 240 ∧ (∀ j, j < T.1 → T.2 j ≤ 255) ∧ PT μ T.1 T.2
theorem CT.cg {μ μ' : Mm} {T : Tx} (c : CT μ T) (e1 : μ'.1 1 1 = μ.1 1 1) (e : μ'.1 2 = μ.1 2) : CT μ' T := ⟨c.1, c.2.1, c.2.2.cg e1 e⟩
theorem letterAt_eq {P Q k : Nat} {μ : Mm} {T : Tx} (hr : μ.2 = RFt P Q) (c : CT μ T) (hk : k < 2 ^ 31) : f_X7_letterAt μ 1 (nI k) = some (lc T k, μ) := by
  have h240 := c.1
  unfold f_X7_letterAt
  rw [if_neg (nI_pos hk), c.2.2.1]
  by_cases q : k < T.1
  · rw [if_neg (nI_ge q (by omega)), rd hr (rt_1_0 P Q), bR_s, bR_s, if_neg (show ¬ Int32.ofNat (ln 2) ≤ nI k from nI_ge (show k < 240 by omega) (by decide)), ckb_n (show k < ln 2 by show k < 240; omega) (by decide), gd_t, nI_clamp (by omega), c.2.2.2 k q, lc_in q]
  · rw [if_pos (nI_le (by omega) hk), lc_end (by omega)]
theorem isFig_eq {μ : Mm} {T : Tx} (c : CT μ T) (k : Nat) : f_X7_isFigure μ (lc T k) = some (bz (isF T k), μ) := by
  unfold f_X7_isFigure
  by_cases q : k < T.1
  · have h255 := c.2.1 k q
    rw [lc_in q]
    by_cases a : T.2 k < 48
    · rw [if_pos (show nI (T.2 k) < (48 : Int32) from nI_lt (b := 48) a (by omega)), show isF T k = false from decide_eq_false (by omega)]
      rfl
    · rw [if_neg (show ¬ nI (T.2 k) < (48 : Int32) from nI_nlt (b := 48) (by omega) (by omega))]
      by_cases b : 57 < T.2 k
      · rw [if_pos (show (57 : Int32) < nI (T.2 k) from nI_lt (a := 57) b (by omega)), show isF T k = false from decide_eq_false (by omega)]
        rfl
      · rw [if_neg (show ¬ (57 : Int32) < nI (T.2 k) from nI_nlt (a := 57) (by omega) (by omega)), show isF T k = true from decide_eq_true (by omega)]
        rfl
  · rw [lc_end (by omega), isF_f (by omega)]
    rfl
theorem figureAt_eq {P Q k : Nat} {μ : Mm} {T : Tx} (hr : μ.2 = RFt P Q) (c : CT μ T) (h : isF T k = true) : f_X7_figureAt μ 1 (nI k) = some (nI (dgt T k), μ) := by
  have hf := of_decide_eq_true h
  have h240 := c.1
  unfold f_X7_figureAt
  rw [letterAt_eq hr c (by omega), bC_s, isFig_eq c, bC_s, if_neg (bz_t h), lc_in hf.1]
  show some (nI (T.2 k) - nI 48, μ) = _
  rw [pk_sub hf.2.1]
  rfl
/-- only the place moved on -/
def MvC (μ μ' : Mm) (k : Nat) : Prop := Ag μ μ' (fun a => a = 1) ∧ (∀ s, s ≠ 4 → μ'.1 1 s = μ.1 1 s) ∧ μ'.1 1 4 = nI k
theorem MvC.one {μ μ' : Mm} {j k : Nat} (h : MvC (up2 μ.1 1 4 (nI j), μ.2) μ' k) : MvC μ μ' k :=
  ⟨(Ag.up (X := fun a => a = 1) rfl).tr h.1, fun s hs => (h.2.1 s hs).trans (up2_nk hs), h.2.2⟩
theorem MvC.ct {μ μ' : Mm} {k : Nat} {T : Tx} (h : MvC μ μ' k) (c : CT μ T) : CT μ' T := c.cg (h.2.1 1 (by decide)) (h.1.2 2 (by decide))
theorem CT.at4 {μ : Mm} {T : Tx} {v : Int32} (c : CT μ T) : CT (up2 μ.1 1 4 v, μ.2) T := c.cg rfl rfl
theorem skip_loop {P Q : Nat} {T : Tx} : ∀ (m j k f : Nat) (μ : Mm), j + m = 240 → m < f → j ≤ k → μ.2 = RFt P Q → CT μ T → μ.1 1 4 = nI k → k ≤ T.1 →
    ∃ μ', f_X7_skipBlanks_L2 f μ 1 (nI j) = some μ' ∧ MvC μ μ' (skF T m k) := by
  intro m
  induction m with
  | zero =>
    intro j k f μ hm hf hj hr c h4 hk
    obtain ⟨f, rfl⟩ := fs1 hf
    refine ⟨μ, ?_, Ag.rf, fun _ _ => rfl, h4⟩
    show f_X7_skipBlanks_L2b _ _ _ _ = _
    unfold f_X7_skipBlanks_L2b
    rw [show j = 240 by omega, if_pos (by decide)]
  | succ m ih =>
    intro j k f μ hm hf hj hr c h4 hk
    obtain ⟨f, rfl⟩ := fs1 hf
    have h240 := c.1
    show ∃ μ', f_X7_skipBlanks_L2b _ _ _ _ = _ ∧ MvC μ μ' (if lc T k = 32 then skF T m (k + 1) else k)
    unfold f_X7_skipBlanks_L2b
    rw [if_neg (show ¬ (240 : Int32) ≤ nI j from nI_ge (b := 240) (by omega) (by omega)), h4, letterAt_eq hr c (by omega), bC_s]
    by_cases q : lc T k = 32
    · have hk2 := lc_lt q (by decide)
      obtain ⟨μ', e1, e2⟩ := ih (j + 1) (k + 1) f (up2 μ.1 1 4 (nI (k + 1)), μ.2) (by omega) (by omega) (by omega) hr c.at4 rfl (by omega)
      rw [if_pos q, if_pos q, h4, nI_p1, bM_s, nI_p1]
      exact ⟨μ', e1, e2.one⟩
    · rw [if_neg q, if_neg q]
      exact ⟨μ, rfl, Ag.rf, fun _ _ => rfl, h4⟩
theorem skip_eq {P Q k : Nat} {T : Tx} {μ : Mm} (hr : μ.2 = RFt P Q) (c : CT μ T) (h4 : μ.1 1 4 = nI k) (hk : k ≤ T.1) :
    ∃ μ', f_X7_skipBlanks μ 1 = some μ' ∧ MvC μ μ' (sk T k) := by
  obtain ⟨μ', e1, e2⟩ := skip_loop 240 0 k FU μ (by omega) (by rw [FU_eq]; omega) (Nat.zero_le _) hr c h4 hk
  rw [skF_sk c.1] at e2
  exact ⟨μ', e1, e2⟩
theorem figs_loop {P Q a : Nat} {T : Tx} : ∀ (m j k f : Nat) (μ : Mm), j + m = 240 → m < f → j ≤ k → μ.2 = RFt P Q → CT μ T → μ.1 1 4 = nI k → k ≤ T.1 →
    ∃ μ', f_X7_readFigures_L10 f μ 1 (nI j) = f_X7_readFigures_j47 μ' 1 ∧ MvC μ μ' (feF T m k) := by
  intro m
  induction m with
  | zero =>
    intro j k f μ hm hf hj hr c h4 hk
    obtain ⟨f, rfl⟩ := fs1 hf
    refine ⟨μ, ?_, Ag.rf, fun _ _ => rfl, h4⟩
    show f_X7_readFigures_L10b _ _ _ _ = _
    unfold f_X7_readFigures_L10b
    rw [show j = 240 by omega, if_pos (by decide)]
  | succ m ih =>
    intro j k f μ hm hf hj hr c h4 hk
    obtain ⟨f, rfl⟩ := fs1 hf
    have h240 := c.1
    show ∃ μ', f_X7_readFigures_L10b _ _ _ _ = _ ∧ MvC μ μ' (if isF T k = true then feF T m (k + 1) else k)
    unfold f_X7_readFigures_L10b
    rw [if_neg (show ¬ (240 : Int32) ≤ nI j from nI_ge (b := 240) (by omega) (by omega)), h4, letterAt_eq hr c (by omega), bC_s, isFig_eq c, bC_s]
    by_cases q : isF T k = true
    · have hk2 := (of_decide_eq_true q).1
      obtain ⟨μ', e1, e2⟩ := ih (j + 1) (k + 1) f (up2 μ.1 1 4 (nI (k + 1)), μ.2) (by omega) (by omega) (by omega) hr c.at4 rfl (by omega)
      rw [if_neg (bz_t q), if_pos q, h4, nI_p1, bM_s, nI_p1]
      exact ⟨μ', e1, e2.one⟩
    · rw [if_pos (bz_f (by simpa using q)), if_neg q]
      exact ⟨μ, rfl, Ag.rf, fun _ _ => rfl, h4⟩
/-- no fault so far, the place is k -/
def GD (μ : Mm) (T : Tx) (k : Nat) : Prop := CT μ T ∧ μ.1 1 3 = 0 ∧ μ.1 1 2 = -1 ∧ μ.1 1 4 = nI k ∧ k ≤ T.1
/-- the first fault is f, at w -/
def BD (μ : Mm) (T : Tx) (f w : Nat) : Prop := CT μ T ∧ (0 < f ∧ f < 5) ∧ μ.1 1 3 = nI f ∧ μ.1 1 2 = nI w ∧ ∃ k, k ≤ T.1 ∧ μ.1 1 4 = nI k
theorem GD.mv {μ μ' : Mm} {T : Tx} {k k' : Nat} (g : GD μ T k) (m : MvC μ μ' k') (hk : k' ≤ T.1) : GD μ' T k' :=
  ⟨m.ct g.1, by rw [m.2.1 3 (by decide)]; exact g.2.1, by rw [m.2.1 2 (by decide)]; exact g.2.2.1, m.2.2, hk⟩
theorem BD.mv {μ μ' : Mm} {T : Tx} {f w k' : Nat} (g : BD μ T f w) (m : MvC μ μ' k') (hk : k' ≤ T.1) : BD μ' T f w :=
  ⟨m.ct g.1, g.2.1, by rw [m.2.1 3 (by decide)]; exact g.2.2.1, by rw [m.2.1 2 (by decide)]; exact g.2.2.2.1, k', hk, m.2.2⟩
theorem BD.ne {μ : Mm} {T : Tx} {f w : Nat} (g : BD μ T f w) : ¬ μ.1 1 3 = 0 := by
  rw [g.2.2.1]
  exact nI_ne0 g.2.1.1 (by have := g.2.1.2; omega)
abbrev X1 (a : Nat) : Prop := a = 1
theorem fail_g {μ : Mm} {T : Tx} {k : Nat} (f w : Nat) (g : GD μ T k) (hf : 0 < f ∧ f < 5) : ∃ μ', f_X7_fail μ 1 (nI f) (nI w) = some μ' ∧ Ag μ μ' X1 ∧ BD μ' T f w ∧ μ'.1 1 4 = μ.1 1 4 ∧ μ'.1 1 5 = μ.1 1 5 := by
  refine ⟨(up2 (up2 μ.1 1 3 (nI f)) 1 2 (nI w), μ.2), ?_, (Ag.up (X := X1) rfl).u1 rfl, ⟨g.1.cg rfl rfl, hf, rfl, rfl, k, g.2.2.2.2, g.2.2.2.1⟩, rfl, rfl⟩
  unfold f_X7_fail
  rw [if_pos g.2.1, bM_s, bM_s]
theorem fail_b {μ : Mm} {T : Tx} {f w : Nat} (x v : Int32) (g : BD μ T f w) : f_X7_fail μ 1 x v = some μ := by
  unfold f_X7_fail
  rw [if_neg g.ne]
theorem figs_g {P Q k : Nat} {T : Tx} {μ : Mm} (hr : μ.2 = RFt P Q) (g : GD μ T k) (h : fe T k ≠ k) :
    ∃ μ', f_X7_readFigures μ 1 = some (nI (fe T k - k), μ') ∧ Ag μ μ' X1 ∧ GD μ' T (fe T k) ∧ μ'.1 1 5 = nI k := by
  have h240 := g.1.1
  have hle := fe_le g.2.2.2.2
  have hge := fe_ge T k
  have hk := g.2.2.2.2
  have gu : Ag μ (up2 μ.1 1 5 (nI k), μ.2) X1 := Ag.up rfl
  have g0 : GD (up2 μ.1 1 5 (nI k), μ.2) T k := ⟨g.1.cg rfl rfl, g.2.1, g.2.2.1, g.2.2.2.1, hk⟩
  obtain ⟨μ', e1, e2⟩ := figs_loop (P := P) (Q := Q) (a := 0) 240 0 k FU (up2 μ.1 1 5 (nI k), μ.2) (by omega) (by rw [FU_eq]; omega) (Nat.zero_le _) hr g0.1 g0.2.2.2.1 hk
  rw [feF_fe g.1.1] at e2
  have h5 : μ'.1 1 5 = nI k := e2.2.1 5 (by decide)
  refine ⟨μ', ?_, gu.tr e2.1, g0.mv e2 hle, h5⟩
  unfold f_X7_readFigures
  rw [g.2.2.2.1, bM_s]
  refine e1.trans ?_
  unfold f_X7_readFigures_j47 f_X7_readFigures_j67
  rw [e2.2.2, h5, if_neg (nI_ne h (by omega) (by omega)), pk_sub hge]
theorem figs_f {P Q k : Nat} {T : Tx} {μ : Mm} (hr : μ.2 = RFt P Q) (g : GD μ T k) (h : fe T k = k) :
    ∃ x μ', f_X7_readFigures μ 1 = some (x, μ') ∧ Ag μ μ' X1 ∧ BD μ' T 1 k := by
  have h240 := g.1.1
  have hk := g.2.2.2.2
  have gu : Ag μ (up2 μ.1 1 5 (nI k), μ.2) X1 := Ag.up rfl
  have g0 : GD (up2 μ.1 1 5 (nI k), μ.2) T k := ⟨g.1.cg rfl rfl, g.2.1, g.2.2.1, g.2.2.2.1, hk⟩
  obtain ⟨μ1, e1, e2⟩ := figs_loop (P := P) (Q := Q) (a := 0) 240 0 k FU (up2 μ.1 1 5 (nI k), μ.2) (by omega) (by rw [FU_eq]; omega) (Nat.zero_le _) hr g0.1 g0.2.2.2.1 hk
  rw [feF_fe g.1.1, h] at e2
  have h5 : μ1.1 1 5 = nI k := e2.2.1 5 (by decide)
  obtain ⟨μ', d1, d2, d3, d4, d5⟩ := fail_g 1 k (g0.mv e2 hk) (by decide)
  refine ⟨μ'.1 1 4 - μ'.1 1 5, μ', ?_, (gu.tr e2.1).tr d2, d3⟩
  unfold f_X7_readFigures
  rw [g.2.2.2.1, bM_s]
  refine e1.trans ?_
  unfold f_X7_readFigures_j47 f_X7_readFigures_j67
  rw [e2.2.2, h5, if_pos rfl, show f_X7_fail μ1 1 (1 : Int32) (nI k) = some μ' from d1, bV_s]
theorem figs_b {P Q f w : Nat} {T : Tx} {μ : Mm} (hr : μ.2 = RFt P Q) (g : BD μ T f w) :
    ∃ x μ', f_X7_readFigures μ 1 = some (x, μ') ∧ Ag μ μ' X1 ∧ BD μ' T f w := by
  have h240 := g.1.1
  obtain ⟨k, hk, h4⟩ := g.2.2.2.2
  have gu : Ag μ (up2 μ.1 1 5 (nI k), μ.2) X1 := Ag.up rfl
  have g0 : BD (up2 μ.1 1 5 (nI k), μ.2) T f w := ⟨g.1.cg rfl rfl, g.2.1, g.2.2.1, g.2.2.2.1, k, hk, h4⟩
  obtain ⟨μ1, e1, e2⟩ := figs_loop (P := P) (Q := Q) (a := 0) 240 0 k FU (up2 μ.1 1 5 (nI k), μ.2) (by omega) (by rw [FU_eq]; omega) (Nat.zero_le _) hr g0.1 h4 hk
  rw [feF_fe g.1.1] at e2
  have g1 := g0.mv e2 (fe_le hk)
  refine ⟨μ1.1 1 4 - μ1.1 1 5, μ1, ?_, gu.tr e2.1, g1⟩
  unfold f_X7_readFigures
  rw [h4, bM_s]
  refine e1.trans ?_
  unfold f_X7_readFigures_j47 f_X7_readFigures_j67
  rw [fail_b _ _ g1, bV_s]
  split <;> rfl
theorem GD.skp {P Q k : Nat} {T : Tx} {μ : Mm} (g : GD μ T k) (hr : μ.2 = RFt P Q) : ∃ μ', f_X7_skipBlanks μ 1 = some μ' ∧ Ag μ μ' X1 ∧ GD μ' T (sk T k) := by
  obtain ⟨μ', e1, e2⟩ := skip_eq hr g.1 g.2.2.2.1 g.2.2.2.2
  exact ⟨μ', e1, e2.1, g.mv e2 (sk_le g.2.2.2.2)⟩
theorem BD.skp {P Q f w : Nat} {T : Tx} {μ : Mm} (g : BD μ T f w) (hr : μ.2 = RFt P Q) : ∃ μ', f_X7_skipBlanks μ 1 = some μ' ∧ Ag μ μ' X1 ∧ BD μ' T f w := by
  obtain ⟨k, hk, h4⟩ := g.2.2.2.2
  obtain ⟨μ', e1, e2⟩ := skip_eq hr g.1 h4 hk
  exact ⟨μ', e1, e2.1, g.mv e2 (sk_le hk)⟩
theorem num_loop {P Q a c5 cnt : Nat} {T : Tx} {μ : Mm} {lo hi : Int32} (hr : μ.2 = RFt P Q) (c : CT μ T) (h5 : μ.1 1 5 = nI a) (hc : c5 = min cnt 5) (hcnt : cnt < 2 ^ 20) (hd : ∀ i, i < c5 → isF T (a + i) = true) : ∀ (m j f : Nat), j + m = c5 → m < f →
    f_X7_readNumber_L24 f μ 1 lo hi (nI cnt) (nI (nvF T a j)) (nI j) = f_X7_readNumber_j61 μ 1 lo hi (nI cnt) (nI (nvF T a c5)) := by
  intro m
  induction m with
  | zero =>
    intro j f hm hf
    obtain ⟨f, rfl⟩ := fs1 hf
    show f_X7_readNumber_L24b _ _ _ _ _ _ _ _ = _
    unfold f_X7_readNumber_L24b
    by_cases q : cnt ≤ j
    · rw [if_pos (nI_le q (by omega)), show j = c5 by omega]
    · rw [if_neg (nI_ge (by omega) (by omega)), if_pos (show (5 : Int32) ≤ nI j from nI_le (a := 5) (by omega) (by omega)), show j = c5 by omega]
  | succ m ih =>
    intro j f hm hf
    obtain ⟨f, rfl⟩ := fs1 hf
    have hh : nvF T a (j + 1) = 10 * nvF T a j + dgt T (a + j) := rfl
    show f_X7_readNumber_L24b _ _ _ _ _ _ _ _ = _
    unfold f_X7_readNumber_L24b
    rw [if_neg (nI_ge (by omega) (by omega)), if_neg (show ¬ (5 : Int32) ≤ nI j from nI_ge (b := 5) (by omega) (by omega)), h5, nI_add, figureAt_eq hr c (hd j (by omega)), bC_s, nI_10, bI_s, nI_p1, ← hh]
    exact ih (j + 1) f (by omega) (by omega)
theorem num_g {P Q lo hi k v e : Nat} {T : Tx} {μ : Mm} {loI hiI : Int32} (hl : loI = nI lo) (hh : hiI = nI hi) (hlo : lo < 2 ^ 31) (hhi : hi < 2 ^ 31) (hr : μ.2 = RFt P Q) (g : GD μ T k) (h : rdN T lo hi k = Sum.inr (v, e)) :
    ∃ μ', f_X7_readNumber μ 1 loI hiI = some (nI v, μ') ∧ Ag μ μ' X1 ∧ GD μ' T e ∧ μ'.1 1 5 = nI (sk T k) := by
  subst hl hh
  have h240 := g.1.1
  unfold rdN at h
  by_cases q1 : fe T (sk T k) = sk T k
  · rw [if_pos q1] at h; cases h
  · rw [if_neg q1] at h
    by_cases q2 : 5 < fe T (sk T k) - sk T k ∨ nvF T (sk T k) (fe T (sk T k) - sk T k) < lo ∨ hi < nvF T (sk T k) (fe T (sk T k) - sk T k)
    · rw [if_pos q2] at h; cases h
    · rw [if_neg q2] at h
      cases h
      obtain ⟨μ1, e1, e2, e3⟩ := g.skp hr
      have hr1 := e2.1.trans hr
      obtain ⟨μ2, d1, d2, d3, d4⟩ := figs_g hr1 e3 q1
      have hr2 := d2.1.trans hr1
      have hd : ∀ i, i < fe T (sk T k) - sk T k → isF T (sk T k + i) = true := fun i hi => fe_in (k := sk T k) (by omega) (by omega)
      have hv := nv5 hd (by omega)
      have hle := fe_le (sk_le g.2.2.2.2)
      refine ⟨μ2, ?_, e2.tr d2, d3, d4⟩
      unfold f_X7_readNumber
      rw [e1, bV_s, d1, bC_s, if_pos d3.2.1]
      refine (num_loop hr2 d3.1 d4 (c5 := fe T (sk T k) - sk T k) (by omega) (by omega) hd (fe T (sk T k) - sk T k) 0 FU (by omega) (by rw [FU_eq]; omega)).trans ?_
      unfold f_X7_readNumber_j61
      rw [if_neg (show ¬ (5 : Int32) < nI (fe T (sk T k) - sk T k) from nI_nlt (a := 5) (by omega) (by omega)), if_neg (nI_nlt (by omega) (by omega)), if_pos (nI_le (by omega) (by omega))]
theorem num_f {P Q lo hi k fl w : Nat} {T : Tx} {μ : Mm} {loI hiI : Int32} (hl : loI = nI lo) (hh : hiI = nI hi) (hlo : lo < 2 ^ 31) (hhi : hi < 2 ^ 31) (hr : μ.2 = RFt P Q) (g : GD μ T k) (h : rdN T lo hi k = Sum.inl (fl, w)) :
    ∃ x μ', f_X7_readNumber μ 1 loI hiI = some (x, μ') ∧ Ag μ μ' X1 ∧ BD μ' T fl w := by
  subst hl hh
  have h240 := g.1.1
  obtain ⟨μ1, e1, e2, e3⟩ := g.skp hr
  have hr1 := e2.1.trans hr
  unfold rdN at h
  by_cases q1 : fe T (sk T k) = sk T k
  · rw [if_pos q1] at h
    cases h
    obtain ⟨x, μ2, d1, d2, d3⟩ := figs_f hr1 e3 q1
    refine ⟨nI lo, μ2, ?_, e2.tr d2, d3⟩
    unfold f_X7_readNumber
    rw [e1, bV_s, d1, bC_s, if_neg d3.ne]
  · rw [if_neg q1] at h
    by_cases q2 : 5 < fe T (sk T k) - sk T k ∨ nvF T (sk T k) (fe T (sk T k) - sk T k) < lo ∨ hi < nvF T (sk T k) (fe T (sk T k) - sk T k)
    · rw [if_pos q2] at h
      cases h
      obtain ⟨μ2, d1, d2, d3, d4⟩ := figs_g hr1 e3 q1
      have hr2 := d2.1.trans hr1
      obtain ⟨μ3, f1, f2, f3, f4, f5⟩ := fail_g 2 (sk T k) d3 (by decide)
      have hle := fe_le (sk_le g.2.2.2.2)
      have hd : ∀ i, i < min (fe T (sk T k) - sk T k) 5 → isF T (sk T k + i) = true := fun i hi => fe_in (k := sk T k) (by omega) (by omega)
      have hv := nv5 hd (by omega)
      have hj : ∀ x : Int32, f_X7_readNumber_j78 μ2 1 x = some (x, μ3) := fun x => by
        unfold f_X7_readNumber_j78
        rw [d4, show f_X7_fail μ2 1 (2 : Int32) (nI (sk T k)) = some μ3 from f1, bV_s]
      refine ⟨nI (nvF T (sk T k) (min (fe T (sk T k) - sk T k) 5)), μ3, ?_, (e2.tr d2).tr f2, f3⟩
      unfold f_X7_readNumber
      rw [e1, bV_s, d1, bC_s, if_pos d3.2.1]
      refine (num_loop hr2 d3.1 d4 (c5 := min (fe T (sk T k) - sk T k) 5) rfl (by omega) hd (min (fe T (sk T k) - sk T k) 5) 0 FU (by omega) (by rw [FU_eq]; omega)).trans ?_
      unfold f_X7_readNumber_j61
      rw [hj]
      by_cases q3 : 5 < fe T (sk T k) - sk T k
      · rw [if_pos (show (5 : Int32) < nI (fe T (sk T k) - sk T k) from nI_lt (a := 5) q3 (by omega))]
      · rw [if_neg (show ¬ (5 : Int32) < nI (fe T (sk T k) - sk T k) from nI_nlt (a := 5) (by omega) (by omega))]
        have e5 : min (fe T (sk T k) - sk T k) 5 = fe T (sk T k) - sk T k := by omega
        rw [e5] at hv ⊢
        by_cases q4 : nvF T (sk T k) (fe T (sk T k) - sk T k) < lo
        · rw [if_pos (nI_lt q4 (by omega))]
        · rw [if_neg (nI_nlt (by omega) (by omega)), if_neg (nI_ge (by omega) (by omega))]
    · rw [if_neg q2] at h; cases h
theorem num_b {P Q fl w : Nat} {T : Tx} {μ : Mm} (loI hiI : Int32) (hr : μ.2 = RFt P Q) (g : BD μ T fl w) :
    ∃ x μ', f_X7_readNumber μ 1 loI hiI = some (x, μ') ∧ Ag μ μ' X1 ∧ BD μ' T fl w := by
  obtain ⟨μ1, e1, e2, e3⟩ := g.skp hr
  obtain ⟨x, μ2, d1, d2, d3⟩ := figs_b (e2.1.trans hr) e3
  refine ⟨loI, μ2, ?_, e2.tr d2, d3⟩
  unfold f_X7_readNumber
  rw [e1, bV_s, d1, bC_s, if_neg d3.ne]
/-- the clause's end -/
def clz (T : Tx) (k : Nat) : Sum (Nat × Nat) Nat := if lc T (sk T k) = 59 then Sum.inr (sk T k + 1) else Sum.inl (1, sk T k)
theorem close_g {P Q k e : Nat} {T : Tx} {μ : Mm} (hr : μ.2 = RFt P Q) (g : GD μ T k) (h : clz T k = Sum.inr e) : ∃ μ', f_X7_readClose μ 1 = some μ' ∧ Ag μ μ' X1 ∧ GD μ' T e := by
  obtain ⟨μ1, e1, e2, e3⟩ := g.skp hr
  have hr1 := e2.1.trans hr
  have h240 := g.1.1
  have hs := sk_le g.2.2.2.2
  unfold clz at h
  by_cases q : lc T (sk T k) = 59
  · rw [if_pos q] at h
    cases h
    have hl := lc_lt q (by decide)
    refine ⟨(up2 μ1.1 1 4 (nI (sk T k + 1)), μ1.2), ?_, e2.tr (Ag.up rfl), ⟨e3.1.at4, e3.2.1, e3.2.2.1, rfl, by omega⟩⟩
    unfold f_X7_readClose
    rw [e1, bV_s, e3.2.2.2.1, letterAt_eq hr1 e3.1 (by omega), bC_s, if_pos q, e3.2.2.2.1, nI_p1, bM_s]
  · rw [if_neg q] at h; cases h
theorem close_f {P Q k fl w : Nat} {T : Tx} {μ : Mm} (hr : μ.2 = RFt P Q) (g : GD μ T k) (h : clz T k = Sum.inl (fl, w)) : ∃ μ', f_X7_readClose μ 1 = some μ' ∧ Ag μ μ' X1 ∧ BD μ' T fl w := by
  obtain ⟨μ1, e1, e2, e3⟩ := g.skp hr
  have hr1 := e2.1.trans hr
  have h240 := g.1.1
  have hs := sk_le g.2.2.2.2
  unfold clz at h
  by_cases q : lc T (sk T k) = 59
  · rw [if_pos q] at h; cases h
  · rw [if_neg q] at h
    cases h
    obtain ⟨μ2, f1, f2, f3, f4, f5⟩ := fail_g 1 (sk T k) e3 (by decide)
    refine ⟨μ2, ?_, e2.tr f2, f3⟩
    unfold f_X7_readClose
    rw [e1, bV_s, e3.2.2.2.1, letterAt_eq hr1 e3.1 (by omega), bC_s, if_neg q, e3.2.2.2.1, show f_X7_fail μ1 1 (1 : Int32) (nI (sk T k)) = some μ2 from f1, bV_s]
theorem close_b {P Q fl w : Nat} {T : Tx} {μ : Mm} (hr : μ.2 = RFt P Q) (g : BD μ T fl w) : ∃ μ', f_X7_readClose μ 1 = some μ' ∧ Ag μ μ' X1 ∧ BD μ' T fl w := by
  obtain ⟨μ1, e1, e2, e3⟩ := g.skp hr
  have hr1 := e2.1.trans hr
  have h240 := g.1.1
  obtain ⟨k, hk, h4⟩ := e3.2.2.2.2
  by_cases q : lc T k = 59
  · have hl := lc_lt q (by decide)
    refine ⟨(up2 μ1.1 1 4 (nI (k + 1)), μ1.2), ?_, e2.tr (Ag.up rfl), ⟨e3.1.at4, e3.2.1, e3.2.2.1, e3.2.2.2.1, k + 1, by omega, rfl⟩⟩
    unfold f_X7_readClose
    rw [e1, bV_s, h4, letterAt_eq hr1 e3.1 (by omega), bC_s, if_pos q, h4, nI_p1, bM_s]
  · refine ⟨μ1, ?_, e2, e3⟩
    unfold f_X7_readClose
    rw [e1, bV_s, h4, letterAt_eq hr1 e3.1 (by omega), bC_s, if_neg q, fail_b _ _ e3, bV_s]
