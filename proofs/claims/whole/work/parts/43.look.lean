/-! look -/
theorem fill_loop2 {a n : Nat} (v : Int32) (hl : ln a = n) (hn : n < 2 ^ 31) : ∀ (m k f : Nat) (μ : Mm), k + m = n → m < f → (∀ j, j < k → μ.1 a j = v) →
    ∃ μ', f_J7_fill_53178_L5 f μ a v (nI k) (nI n) = some μ' ∧ Ag μ μ' (fun b => b = a) ∧ ∀ j, j < n → μ'.1 a j = v := by
  intro m
  induction m with
  | zero =>
    intro k f μ hm hf hc
    obtain ⟨f, rfl⟩ := fs1 hf
    refine ⟨μ, ?_, Ag.rf, fun j hj => hc j (by omega)⟩
    show f_J7_fill_53178_L5b _ _ _ _ _ _ = _
    unfold f_J7_fill_53178_L5b
    rw [if_pos (nI_le (by omega) (by omega))]
  | succ m ih =>
    intro k f μ hm hf hc
    obtain ⟨f, rfl⟩ := fs1 hf
    have g : Ag μ (up2 μ.1 a k v, μ.2) (fun b => b = a) := Ag.up rfl
    obtain ⟨μ', e1, e2, e3⟩ := ih (k + 1) f (up2 μ.1 a k v, μ.2) (by omega) (by omega) (fun j hj => by
      show up2 μ.1 a k v a j = _
      by_cases q : j = k
      · rw [q, up2_at]
      · rw [up2_nk q]; exact hc j (by omega))
    refine ⟨μ', ?_, g.tr e2, e3⟩
    show f_J7_fill_53178_L5b _ _ _ _ _ _ = _
    unfold f_J7_fill_53178_L5b
    rw [if_neg (nI_ge (by omega) (by omega)), hl, ckb_n (show k < n by omega) hn, gd_t, bM_s, nI_clamp (by omega), nI_p1]
    exact e1
theorem fill_eq {a n : Nat} (μ : Mm) (v : Int32) (hl : ln a = n) (hn : n < 1000) : ∃ μ', f_J7_fill_53178 μ a v = some μ' ∧ Ag μ μ' (fun b => b = a) ∧ ∀ j, j < n → μ'.1 a j = v := by
  obtain ⟨μ', e1, e2, e3⟩ := fill_loop2 v hl (by omega) n 0 FU μ (by omega) (by rw [FU_eq]; omega) (fun j hj => absurd hj (by omega))
  refine ⟨μ', ?_, e2, e3⟩
  unfold f_J7_fill_53178
  rw [hl, bI_s]
  exact e1
/-- how many of the first k ways fit, and let the marble of c rest in d -/
def alk (σ : St) (k c d : Nat) : Nat := cn (fun j => fit σ (dg σ j) && decide (rst (sH σ) (dg σ j) c = d)) k
def alf (σ : St) (k : Nat) : Nat := cn (fun j => fit σ (dg σ j)) k
theorem alk_s (σ : St) (k c d : Nat) : alk σ (k + 1) c d = alk σ k c d + (if (fit σ (dg σ k) && decide (rst (sH σ) (dg σ k) c = d)) = true then 1 else 0) := rfl
theorem alf_s (σ : St) (k : Nat) : alf σ (k + 1) = alf σ k + (if fit σ (dg σ k) = true then 1 else 0) := rfl
def AL (μ : Mm) (a : Nat) (σ : St) (k n : Nat) : Prop := ∀ c, c < hZ (sH σ) → ∀ d, d < hZ (sH σ) → μ.1 a (20 * c + d) = nI (if c < n then alk σ (k + 1) c d else alk σ k c d)
theorem AL.ag {μ μ' : Mm} {a : Nat} {σ : St} {k n : Nat} {X : Nat → Prop} (h : AL μ a σ k n) (g : Ag μ μ' X) (hX : ¬ X a) : AL μ' a σ k n := by
  unfold AL
  rw [g.2 a hX]
  exact h
theorem AL.st {μ : Mm} {a : Nat} {σ : St} {k n : Nat} (h : AL μ a σ k n) (hf : fit σ (dg σ k) = true) (hz : hZ (sH σ) ≤ 20) (hn : n < hZ (sH σ)) (hr : rst (sH σ) (dg σ k) n < hZ (sH σ)) :
    AL (up2 μ.1 a (20 * n + rst (sH σ) (dg σ k) n) (μ.1 a (20 * n + rst (sH σ) (dg σ k) n) + 1), μ.2) a σ k (n + 1) := by
  intro c hc d hd
  show up2 μ.1 a _ _ a (20 * c + d) = _
  by_cases q : c = n
  · subst q
    by_cases r : rst (sH σ) (dg σ k) c = d
    · subst r
      rw [up2_at, h c hc _ hd, if_neg (by omega), if_pos (by omega), nI_p1, alk_s, hf, if_pos (by simp)]
    · rw [up2_nk (by omega), h c hc d hd, if_neg (by omega), if_pos (by omega), alk_s, hf, if_neg (by simp [r])]
      rfl
  · rw [up2_nk (by omega), h c hc d hd]
    by_cases r : c < n
    · rw [if_pos r, if_pos (by omega)]
    · rw [if_neg r, if_neg (by omega)]
theorem AL.nx {μ : Mm} {a : Nat} {σ : St} {k : Nat} (h : AL μ a σ k (hZ (sH σ))) : AL μ a σ (k + 1) 0 := by
  intro c hc d hd
  rw [h c hc d hd, if_pos hc, if_neg (by omega)]
theorem AL.sk {μ : Mm} {a : Nat} {σ : St} {k : Nat} (h : AL μ a σ k 0) (hf : fit σ (dg σ k) = false) : AL μ a σ (k + 1) 0 := by
  intro c hc d hd
  rw [h c hc d hd, if_neg (by omega), if_neg (by omega), alk_s, hf]
  rfl
theorem crests_loop {σ : St} {P Q k : Nat} (hft : fit σ (dg σ k) = true) : ∀ (m c f : Nat) (μ : Mm), HY σ P Q μ → CX μ (sH σ) (dg σ k) → AL μ 98 σ k c → c + m = hZ (sH σ) → m < f →
    ∃ μ', f_X9_countRests_L2 f μ 0 (nI c) = some μ' ∧ Ag μ μ' (fun a => a = 96 ∨ a = 98) ∧ AL μ' 98 σ (k + 1) 0 := by
  intro m
  induction m with
  | zero =>
    intro c f μ y hx ha hm hf
    obtain ⟨f, rfl⟩ := fs1 hf
    have hz := y.hk.z
    refine ⟨μ, ?_, Ag.rf, ?_⟩
    · show f_X9_countRests_L2b _ _ _ _ = _
      unfold f_X9_countRests_L2b
      rw [rd y.2.1 (rt_p P Q), bR_s, y.ch.2.2.1, if_pos (nI_le (by omega) (by omega))]
    · rw [show c = hZ (sH σ) by omega] at ha
      exact ha.nx
  | succ m ih =>
    intro c f μ y hx ha hm hf
    obtain ⟨f, rfl⟩ := fs1 hf
    have hz := y.hk.z
    obtain ⟨μ1, e1, e2, e3⟩ := restFrom_eq y.hk y.2.1 hx (show c < hZ (sH σ) by omega)
    have y1 := y.c (e2.wk (fun a q => by omega))
    have hl := rst_lt (dg σ k) (show c < hZ (sH σ) by omega)
    have ha1 := (ha.ag e2 (by decide)).st hft hz (by omega) hl
    have g2 : Ag μ1 (up2 μ1.1 98 (20 * c + rst (sH σ) (dg σ k) c) (μ1.1 98 (20 * c + rst (sH σ) (dg σ k) c) + 1), μ1.2) (fun a => a = 98) := Ag.up rfl
    obtain ⟨μ', f1, f2, f3⟩ := ih (c + 1) f _ (y1.c (g2.wk (fun a q => by omega))) (e3.ag g2 (by decide) (by decide) (by decide) (by decide)) ha1 (by omega) (by omega)
    refine ⟨μ', ?_, ((e2.wk (fun a q => Or.inl q)).tr (g2.wk (fun a q => Or.inr q))).tr f2, f3⟩
    have e : nI c * (20 : Int32) + nI (rst (sH σ) (dg σ k) c) = nI (20 * c + rst (sH σ) (dg σ k) c) := by
      show nI c * nI 20 + _ = _
      rw [pk_mul, nI_add, Nat.mul_comm]
    have hcb : ckb (nI (20 * c + rst (sH σ) (dg σ k) c)) (ln 98) = true := ckb_n (show _ < 400 by omega) (by decide)
    show f_X9_countRests_L2b _ _ _ _ = _
    unfold f_X9_countRests_L2b f_X9_countRests_j50
    rw [rd y.2.1 (rt_p P Q), bR_s, y.ch.2.2.1, if_neg (nI_ge (by omega) (by omega)), rd y.2.1 (rt_0_10 P Q), bR_s, e1, bC_s, e, bI_s, if_neg (nI_pos (by omega)), rd y1.2.1 (rt_0_12 P Q), bR_s, if_neg (show ¬ Int32.ofNat (ln 98) ≤ nI (20 * c + rst (sH σ) (dg σ k) c) from nI_ge (show 20 * c + rst (sH σ) (dg σ k) c < 400 by omega) (by decide)), bR_s, hcb, gd_t, gd_t, nI_clamp (by omega), bM_s, nI_p1]
    exact f1
theorem alike_loop {σ : St} {P Q : Nat} : ∀ (m k f : Nat) (μ : Mm), HY σ P Q μ → AL μ 98 σ k 0 → k + m = 3 ^ hN (sH σ) → m < f →
    ∃ μ', f_X9_countAlike_L27 f μ 0 (nI (alf σ k)) (nI (3 ^ hN (sH σ))) (nI k) = some (nI (alf σ (3 ^ hN (sH σ))), μ') ∧ Ag μ μ' Xc ∧ AL μ' 98 σ (3 ^ hN (sH σ)) 0 := by
  intro m
  induction m with
  | zero =>
    intro k f μ y ha hm hf
    obtain ⟨f, rfl⟩ := fs1 hf
    have hw := y.w243
    refine ⟨μ, ?_, Ag.rf, by rw [← show k = 3 ^ hN (sH σ) by omega]; exact ha⟩
    show f_X9_countAlike_L27b _ _ _ _ _ _ = _
    unfold f_X9_countAlike_L27b
    rw [if_pos (nI_le (by omega) (by omega)), show k = 3 ^ hN (sH σ) by omega]
  | succ m ih =>
    intro k f μ y ha hm hf
    obtain ⟨f, rfl⟩ := fs1 hf
    have hw := y.w243
    have hz := y.hk.z
    obtain ⟨μ1, e1, e2, e3⟩ := y.bec (show k < 243 by omega)
    have g1 : Ag μ μ1 Xc := e2.wk (fun a q => by omega)
    have y1 := y.c g1
    obtain ⟨μ2, d1, d2, d3⟩ := y1.fts (dig3_le _ _) e3
    have g2 : Ag μ1 μ2 Xc := d2.wk (fun a q => by omega)
    have y2 := y1.c g2
    have ha2 : AL μ2 98 σ k 0 := (ha.ag e2 (by decide)).ag d2 (by decide)
    show ∃ μ', f_X9_countAlike_L27b _ _ _ _ _ _ = _ ∧ _
    unfold f_X9_countAlike_L27b f_X9_countAlike_j61
    rw [if_neg (nI_ge (by omega) (by omega)), rd y.2.1 (rt_0_9 P Q), bR_s, rd y.2.1 (rt_p P Q), bR_s, e1, bV_s, d1, bC_s, nI_p1, nI_p1]
    by_cases q : fit σ (dg σ k) = true
    · obtain ⟨μ3, c1, c2, c3⟩ := crests_loop q (hZ (sH σ)) 0 FU μ2 y2 d3 ha2 (by omega) (by rw [FU_eq]; omega)
      have g3 : Ag μ2 μ3 Xc := c2.wk (fun a q => by omega)
      obtain ⟨μ', f1, f2, f3⟩ := ih (k + 1) f μ3 (y2.c g3) c3 (by omega) (by omega)
      rw [if_neg (bz_t q), show f_X9_countRests μ2 0 = some μ3 from c1, bV_s]
      rw [alf_s, if_pos q] at f1
      exact ⟨μ', f1, ((g1.tr g2).tr g3).tr f2, f3⟩
    · obtain ⟨μ', f1, f2, f3⟩ := ih (k + 1) f μ2 y2 (ha2.sk (by simpa using q)) (by omega) (by omega)
      rw [if_pos (bz_f (by simpa using q))]
      rw [alf_s, if_neg q] at f1
      exact ⟨μ', f1, (g1.tr g2).tr f2, f3⟩
def grk (σ : St) (K c : Nat) : Nat → Nat
  | 0 => 0
  | d + 1 => if grk σ K c d < alk σ K c d then alk σ K c d else grk σ K c d
def gr (σ : St) (c : Nat) : Nat := grk σ (3 ^ hN (sH σ)) c (hZ (sH σ))
theorem alk_le (σ : St) (k c d : Nat) : alk σ k c d ≤ k := cn_le _ _
theorem alf_le (σ : St) (k : Nat) : alf σ k ≤ k := cn_le _ _
theorem grk_le (σ : St) (K c : Nat) : ∀ d, grk σ K c d ≤ K
  | 0 => Nat.zero_le _
  | d + 1 => by
    have := grk_le σ K c d
    have := alk_le σ K c d
    unfold grk
    split <;> omega
theorem great_loop {σ : St} {P Q c : Nat} {μ : Mm} (y : HY σ P Q μ) (ha : AL μ 98 σ (3 ^ hN (sH σ)) 0) (hc : c < hZ (sH σ)) : ∀ (m k f : Nat), k + m = hZ (sH σ) → m < f →
    f_X9_greatestPart_L4 f μ 0 (nI c) (nI (grk σ (3 ^ hN (sH σ)) c k)) (nI k) = some (nI (gr σ c), μ) := by
  have hz := y.hk.z
  have hw := y.w243
  intro m
  induction m with
  | zero =>
    intro k f hm hf
    obtain ⟨f, rfl⟩ := fs1 hf
    show f_X9_greatestPart_L4b _ _ _ _ _ _ = _
    unfold f_X9_greatestPart_L4b gr
    rw [rd y.2.1 (rt_p P Q), bR_s, y.ch.2.2.1, if_pos (nI_le (by omega) (by omega)), show k = hZ (sH σ) by omega]
  | succ m ih =>
    intro k f hm hf
    obtain ⟨f, rfl⟩ := fs1 hf
    have h1 := grk_le σ (3 ^ hN (sH σ)) c k
    have h2 := alk_le σ (3 ^ hN (sH σ)) c k
    have hv := ha c hc k (by omega)
    rw [if_neg (by omega)] at hv
    have e : nI c * (20 : Int32) + nI k = nI (20 * c + k) := by
      show nI c * nI 20 + _ = _
      rw [pk_mul, nI_add, Nat.mul_comm]
    rw [← ih (k + 1) f (by omega) (by omega)]
    show f_X9_greatestPart_L4b _ _ _ _ _ _ = f_X9_greatestPart_L4 f μ 0 (nI c) (nI (if grk σ (3 ^ hN (sH σ)) c k < alk σ (3 ^ hN (sH σ)) c k then alk σ (3 ^ hN (sH σ)) c k else grk σ (3 ^ hN (sH σ)) c k)) (nI (k + 1))
    unfold f_X9_greatestPart_L4b f_X9_greatestPart_j50
    rw [rd y.2.1 (rt_p P Q), bR_s, y.ch.2.2.1, if_neg (nI_ge (by omega) (by omega)), e, bI_s, if_neg (nI_pos (by omega)), rd y.2.1 (rt_0_12 P Q), bR_s, if_neg (show ¬ Int32.ofNat (ln 98) ≤ nI (20 * c + k) from nI_ge (show 20 * c + k < 400 by omega) (by decide)), bR_s, ckb_n (show 20 * c + k < ln 98 by show _ < 400; omega) (by decide), gd_t, nI_clamp (by omega), hv, bI_s, nI_p1]
    congr 1
    by_cases q : grk σ (3 ^ hN (sH σ)) c k < alk σ (3 ^ hN (sH σ)) c k
    · rw [if_pos q, if_pos (nI_lt q (by omega))]
    · rw [if_neg q, if_neg (nI_nlt (by omega) (by omega))]
def lkL (σ : St) : Nat → Nat
  | 0 => alf σ (3 ^ hN (sH σ))
  | c + 1 => if gr σ c < lkL σ c then gr σ c else lkL σ c
def lkB (σ : St) : Nat → Int32
  | 0 => -1
  | c + 1 => if gr σ c < lkL σ c then nI c else lkB σ c
theorem lkL_le (σ : St) : ∀ c, lkL σ c ≤ 3 ^ hN (sH σ)
  | 0 => alf_le σ _
  | c + 1 => by
    have := lkL_le σ c
    unfold lkL
    split <;> omega
theorem lk_loop {σ : St} {P Q : Nat} {μ : Mm} (y : HY σ P Q μ) (ha : AL μ 98 σ (3 ^ hN (sH σ)) 0) : ∀ (m k f : Nat), k + m = hZ (sH σ) → m < f →
    f_X9_look_L12 f μ 0 (lkB σ k) (nI (lkL σ k)) (nI k) = some (lkB σ (hZ (sH σ)), μ) := by
  have hz := y.hk.z
  have hw := y.w243
  intro m
  induction m with
  | zero =>
    intro k f hm hf
    obtain ⟨f, rfl⟩ := fs1 hf
    show f_X9_look_L12b _ _ _ _ _ _ = _
    unfold f_X9_look_L12b
    rw [rd y.2.1 (rt_p P Q), bR_s, y.ch.2.2.1, if_pos (nI_le (by omega) (by omega)), show k = hZ (sH σ) by omega]
  | succ m ih =>
    intro k f hm hf
    obtain ⟨f, rfl⟩ := fs1 hf
    have h1 : gr σ k ≤ 3 ^ hN (sH σ) := grk_le σ (3 ^ hN (sH σ)) k _
    have h2 := lkL_le σ k
    have hg : f_X9_greatestPart μ 0 (nI k) = some (nI (gr σ k), μ) := great_loop y ha (show k < hZ (sH σ) by omega) (hZ (sH σ)) 0 FU (by omega) (by rw [FU_eq]; omega)
    rw [← ih (k + 1) f (by omega) (by omega)]
    show f_X9_look_L12b _ _ _ _ _ _ = f_X9_look_L12 f μ 0 (if gr σ k < lkL σ k then nI k else lkB σ k) (nI (if gr σ k < lkL σ k then gr σ k else lkL σ k)) (nI (k + 1))
    unfold f_X9_look_L12b f_X9_look_j44
    rw [rd y.2.1 (rt_p P Q), bR_s, y.ch.2.2.1, if_neg (nI_ge (by omega) (by omega)), hg, bC_s, nI_p1]
    by_cases q : gr σ k < lkL σ k
    · rw [if_pos q, if_pos q, if_neg (nI_ge q (by omega))]
    · rw [if_neg q, if_neg q, if_pos (nI_le (by omega) (by omega))]
/-! the reference's -/
theorem mcrests_loop {σ : St} {P Q k : Nat} {x : Int32} (rc : Mm → Nat → Int32 → Int32 → Option (Int32 × Mm)) (hft : fit σ (dg σ k) = true) : ∀ (m c f : Nat) (μ : Mm), HY σ P Q μ → MG μ (sH σ) (dg σ k) → AL μ 126 σ k c → c + m = hZ (sH σ) → m < f →
    ∃ μ', f_X10_look_L53 rc f μ 107 x (nI k) (nI c) = rc μ' 107 x (nI (k + 1)) ∧ Ag μ μ' (fun a => a = 126) ∧ AL μ' 126 σ (k + 1) 0 := by
  intro m
  induction m with
  | zero =>
    intro c f μ y hx ha hm hf
    obtain ⟨f, rfl⟩ := fs1 hf
    have hz := y.hk.z
    refine ⟨μ, ?_, Ag.rf, ?_⟩
    · show f_X10_look_L53b _ _ _ _ _ _ _ = _
      unfold f_X10_look_L53b f_X10_look_j89
      rw [mcells_eq y.mh, bC_s, if_pos (nI_le (by omega) (by omega)), nI_p1]
    · rw [show c = hZ (sH σ) by omega] at ha
      exact ha.nx
  | succ m ih =>
    intro c f μ y hx ha hm hf
    obtain ⟨f, rfl⟩ := fs1 hf
    have hz := y.hk.z
    have hl := rst_lt (dg σ k) (show c < hZ (sH σ) by omega)
    have ha1 := ha.st hft hz (by omega) hl
    have g2 : Ag μ (up2 μ.1 126 (20 * c + rst (sH σ) (dg σ k) c) (μ.1 126 (20 * c + rst (sH σ) (dg σ k) c) + 1), μ.2) (fun a => a = 126) := Ag.up rfl
    obtain ⟨μ', f1, f2, f3⟩ := ih (c + 1) f _ (y.m (g2.wk (fun a q => by omega))) (hx.ag g2 (by decide)) ha1 (by omega) (by omega)
    refine ⟨μ', ?_, g2.tr f2, f3⟩
    have e : (20 : Int32) * nI c + nI (rst (sH σ) (dg σ k) c) = nI (20 * c + rst (sH σ) (dg σ k) c) := by
      show nI 20 * nI c + _ = _
      rw [pk_mul, nI_add]
    have hcb : ckb (nI (20 * c + rst (sH σ) (dg σ k) c)) (ln 126) = true := ckb_n (show _ < 400 by omega) (by decide)
    show f_X10_look_L53b _ _ _ _ _ _ _ = _
    unfold f_X10_look_L53b
    rw [mcells_eq y.mh, bC_s, if_neg (nI_ge (by omega) (by omega)), rd y.2.1 (rt_107_33 P Q), bR_s, mrestOf_eq y.hk y.2.1 y.mh hx (by omega), bC_s, e, hcb, gd_t, gd_t, nI_clamp (by omega), bM_s, nI_p1]
    exact f1
theorem mgreat_loop {σ : St} {P Q c : Nat} {μ : Mm} (y : HY σ P Q μ) (ha : AL μ 126 σ (3 ^ hN (sH σ)) 0) (hc : c < hZ (sH σ)) (rc : Mm → Nat → Int32 → Int32 → Int32 → Option (Int32 × Mm)) (B : Int32) (L : Nat) (hL : L < 2 ^ 31) : ∀ (m k f : Nat), k + m = hZ (sH σ) → m < f →
    f_X10_look_L117 rc f μ 107 B (nI L) (nI c) (nI (grk σ (3 ^ hN (sH σ)) c k)) (nI k) = rc μ 107 (if gr σ c < L then nI c else B) (nI (if gr σ c < L then gr σ c else L)) (nI (c + 1)) := by
  have hz := y.hk.z
  have hw := y.w243
  intro m
  induction m with
  | zero =>
    intro k f hm hf
    obtain ⟨f, rfl⟩ := fs1 hf
    have h1 : gr σ c ≤ 3 ^ hN (sH σ) := grk_le σ (3 ^ hN (sH σ)) c _
    show f_X10_look_L117b _ _ _ _ _ _ _ _ _ = _
    unfold f_X10_look_L117b f_X10_look_j182 f_X10_look_j195
    rw [mcells_eq y.mh, bC_s, if_pos (nI_le (by omega) (by omega)), show k = hZ (sH σ) by omega, show grk σ (3 ^ hN (sH σ)) c (hZ (sH σ)) = gr σ c from rfl, nI_p1]
    by_cases q : gr σ c < L
    · rw [if_pos q, if_pos q, if_neg (nI_ge q (by omega)), if_neg (nI_ge q (by omega))]
    · rw [if_neg q, if_neg q, if_pos (nI_le (by omega) (by omega)), if_pos (nI_le (by omega) (by omega))]
  | succ m ih =>
    intro k f hm hf
    obtain ⟨f, rfl⟩ := fs1 hf
    have h1 := grk_le σ (3 ^ hN (sH σ)) c k
    have h2 := alk_le σ (3 ^ hN (sH σ)) c k
    have hv := ha c hc k (by omega)
    rw [if_neg (by omega)] at hv
    have e : (20 : Int32) * nI c + nI k = nI (20 * c + k) := by
      show nI 20 * nI c + _ = _
      rw [pk_mul, nI_add]
    rw [← ih (k + 1) f (by omega) (by omega)]
    show f_X10_look_L117b _ _ _ _ _ _ _ _ _ = f_X10_look_L117 rc f μ 107 B (nI L) (nI c) (nI (if grk σ (3 ^ hN (sH σ)) c k < alk σ (3 ^ hN (sH σ)) c k then alk σ (3 ^ hN (sH σ)) c k else grk σ (3 ^ hN (sH σ)) c k)) (nI (k + 1))
    unfold f_X10_look_L117b f_X10_look_j162
    rw [mcells_eq y.mh, bC_s, if_neg (nI_ge (by omega) (by omega)), rd y.2.1 (rt_107_33 P Q), bR_s, e, ckb_n (show 20 * c + k < ln 126 by show _ < 400; omega) (by decide), gd_t, nI_clamp (by omega), hv, nI_p1]
    by_cases q : grk σ (3 ^ hN (sH σ)) c k < alk σ (3 ^ hN (sH σ)) c k
    · rw [if_pos q, if_neg (nI_ge q (by omega)), bR_s, ckb_n (show 20 * c + k < ln 126 by show _ < 400; omega) (by decide), gd_t, hv]
    · rw [if_neg q, if_pos (nI_le (by omega) (by omega))]
theorem mlk_loop {σ : St} {P Q : Nat} {μ : Mm} (y : HY σ P Q μ) (ha : AL μ 126 σ (3 ^ hN (sH σ)) 0) : ∀ (m k f : Nat), k + m = hZ (sH σ) → m < f →
    f_X10_look_L102 f μ 107 (lkB σ k) (nI (lkL σ k)) (nI k) = some (lkB σ (hZ (sH σ)), μ) := by
  have hz := y.hk.z
  have hw := y.w243
  intro m
  induction m with
  | zero =>
    intro k f hm hf
    obtain ⟨f, rfl⟩ := fs1 hf
    show f_X10_look_L102b _ _ _ _ _ _ = _
    unfold f_X10_look_L102b
    rw [mcells_eq y.mh, bC_s, if_pos (nI_le (by omega) (by omega)), show k = hZ (sH σ) by omega]
  | succ m ih =>
    intro k f hm hf
    obtain ⟨f, rfl⟩ := fs1 hf
    have h2 := lkL_le σ k
    rw [← ih (k + 1) f (by omega) (by omega)]
    show f_X10_look_L102b _ _ _ _ _ _ = f_X10_look_L102 f μ 107 (if gr σ k < lkL σ k then nI k else lkB σ k) (nI (if gr σ k < lkL σ k then gr σ k else lkL σ k)) (nI (k + 1))
    unfold f_X10_look_L102b
    rw [mcells_eq y.mh, bC_s, if_neg (nI_ge (by omega) (by omega))]
    exact mgreat_loop y ha (show k < hZ (sH σ) by omega) (f_X10_look_L102 f) (lkB σ k) (lkL σ k) (by omega) (hZ (sH σ)) 0 FU (by omega) (by rw [FU_eq]; omega)
theorem mlkw_loop {σ : St} {P Q : Nat} : ∀ (m k f : Nat) (μ : Mm), HY σ P Q μ → AL μ 126 σ k 0 → k + m = 3 ^ hN (sH σ) → m < f →
    ∃ μ', f_X10_look_L26 f μ 107 (nI (alf σ k)) (nI k) = some (lkB σ (hZ (sH σ)), μ') ∧ Ag μ μ' Xm := by
  intro m
  induction m with
  | zero =>
    intro k f μ y ha hm hf
    obtain ⟨f, rfl⟩ := fs1 hf
    have hw := y.w243
    have hz := y.hk.z
    refine ⟨μ, ?_, Ag.rf⟩
    show f_X10_look_L26b _ _ _ _ _ = _
    unfold f_X10_look_L26b
    rw [y.mwy, bC_s, if_pos (nI_le (by omega) (by omega)), show k = 3 ^ hN (sH σ) by omega]
    rw [show k = 3 ^ hN (sH σ) by omega] at ha
    exact mlk_loop y ha (hZ (sH σ)) 0 FU (by omega) (by rw [FU_eq]; omega)
  | succ m ih =>
    intro k f μ y ha hm hf
    obtain ⟨f, rfl⟩ := fs1 hf
    have hw := y.w243
    have hz := y.hk.z
    obtain ⟨μ1, e1, e2, e3⟩ := y.mby (show k < 243 by omega)
    have g1 : Ag μ μ1 Xm := e2.wk (fun a q => Or.inl q)
    have y1 := y.m g1
    obtain ⟨μ2, d1, d2, d3⟩ := y1.mfit (dig3_le _ _) e3
    have g2 : Ag μ1 μ2 Xm := d2.wk (fun a q => Or.inr (Or.inl q))
    have y2 := y1.m g2
    have ha2 : AL μ2 126 σ k 0 := (ha.ag e2 (by decide)).ag d2 (by decide)
    show ∃ μ', f_X10_look_L26b _ _ _ _ _ = _ ∧ _
    unfold f_X10_look_L26b f_X10_look_j89
    rw [y.mwy, bC_s, if_neg (nI_ge (by omega) (by omega)), e1, bC_s, d1, bC_s, nI_p1, nI_p1]
    by_cases q : fit σ (dg σ k) = true
    · obtain ⟨μ3, c1, c2, c3⟩ := mcrests_loop (x := nI (alf σ k + 1)) (f_X10_look_L26 f) q (hZ (sH σ)) 0 FU μ2 y2 d3 ha2 (by omega) (by rw [FU_eq]; omega)
      have g3 : Ag μ2 μ3 Xm := c2.wk (fun a q => Or.inr (Or.inr (Or.inr q)))
      obtain ⟨μ', f1, f2⟩ := ih (k + 1) f μ3 (y2.m g3) c3 (by omega) (by omega)
      rw [if_neg (bz_t q)]
      rw [alf_s, if_pos q] at f1
      exact ⟨μ', c1.trans f1, ((g1.tr g2).tr g3).tr f2⟩
    · obtain ⟨μ', f1, f2⟩ := ih (k + 1) f μ2 y2 (ha2.sk (by simpa using q)) (by omega) (by omega)
      rw [if_pos (bz_f (by simpa using q))]
      rw [alf_s, if_neg q] at f1
      exact ⟨μ', f1, (g1.tr g2).tr f2⟩
theorem mlk_init {σ : St} {P Q : Nat} : ∀ (m k f : Nat) (μ : Mm), HY σ P Q μ → k + m = 400 → m < f → (∀ j, j < k → μ.1 126 j = 0) →
    ∃ μ', f_X10_look_L2 f μ 107 (nI k) = some (lkB σ (hZ (sH σ)), μ') ∧ Ag μ μ' Xm := by
  intro m
  induction m with
  | zero =>
    intro k f μ y hm hf hc
    obtain ⟨f, rfl⟩ := fs1 hf
    have hw := y.w243
    have hz := y.hk.z
    obtain ⟨μ', e1, e2⟩ := mlkw_loop (3 ^ hN (sH σ)) 0 FU μ y (fun c hc2 d hd => by
      rw [hc _ (by omega), if_neg (by omega)]
      rfl) (by omega) (by rw [FU_eq]; omega)
    refine ⟨μ', ?_, e2⟩
    show f_X10_look_L2b _ _ _ _ = _
    unfold f_X10_look_L2b
    rw [show k = 400 by omega, if_pos (by decide)]
    exact e1
  | succ m ih =>
    intro k f μ y hm hf hc
    obtain ⟨f, rfl⟩ := fs1 hf
    have g : Ag μ (up2 μ.1 126 k 0, μ.2) Xm := Ag.up (Or.inr (Or.inr (Or.inr rfl)))
    obtain ⟨μ', e1, e2⟩ := ih (k + 1) f _ (y.m g) (by omega) (by omega) (fun j hj => by
      show up2 μ.1 126 k _ 126 j = _
      by_cases q : j = k
      · rw [q, up2_at]
      · rw [up2_nk q]; exact hc j (by omega))
    refine ⟨μ', ?_, g.tr e2⟩
    show f_X10_look_L2b _ _ _ _ = _
    unfold f_X10_look_L2b
    rw [if_neg (show ¬ (400 : Int32) ≤ nI k from nI_ge (b := 400) (by omega) (by omega)), rd y.2.1 (rt_107_33 P Q), bR_s, ckb_n (show k < ln 126 by show k < 400; omega) (by decide), gd_t, bM_s, nI_clamp (by omega), nI_p1]
    exact e1
theorem st_look : Sp0 Inv f_X9_look f_X10_look := by
  intro μ hI
  obtain ⟨σ, P, Q, y⟩ := id hI
  have hw := y.w243
  have hz := y.hk.z
  obtain ⟨μ1, e1, e2, e3⟩ := fill_eq μ 0 (show ln 98 = 400 from rfl) (by decide)
  have g1 : Ag μ μ1 Xc := e2.wk (fun a q => by omega)
  have y1 := y.c g1
  obtain ⟨μ2, d1, d2, d3⟩ := alike_loop (3 ^ hN (sH σ)) 0 FU μ1 y1 (fun c hc d hd => by
    rw [e3 _ (by omega), if_neg (by omega)]
    rfl) (by omega) (by rw [FU_eq]; omega)
  have y2 := y1.c d2
  obtain ⟨μ3, m1, m2⟩ := mlk_init 400 0 FU μ2 y2 (by omega) (by rw [FU_eq]; omega) (fun j hj => absurd hj (by omega))
  refine ⟨lkB σ (hZ (sH σ)), μ2, μ3, ?_, m1, (y2.m m2).i⟩
  unfold f_X9_look f_X9_countAlike
  rw [rd y.2.1 (rt_0_12 P Q), bR_s, e1, bV_s, rd y1.2.1 (rt_0_9 P Q), bR_s, rd y1.2.1 (rt_p P Q), bR_s, y1.ch.2.2.2.1, countFor_eq 91 y.hk.2.2.1, bC_s, show f_X9_countAlike_L27 FU μ1 0 0 (nI (3 ^ hN (sH σ))) 0 = _ from d1, bC_s]
  exact lk_loop y2 d3 (hZ (sH σ)) 0 FU (by omega) (by rw [FU_eq]; omega)
