/-! fewest -/
def chg (a b Y N : Nat) : Nat := (a - Y) + (b - N) + (Y + N - a - b)
def pf (M Y N s : Nat) : Nat → Nat
  | 0 => 1000
  | k + 1 => if k / 8 + k % 8 ≤ M ∧ st3 (k / 8) (k % 8) = s then min (chg (k / 8) (k % 8) Y N) (pf M Y N s k) else pf M Y N s k
theorem pf_le (M Y N s : Nat) : ∀ k, pf M Y N s k ≤ 1000
  | 0 => Nat.le_refl _
  | k + 1 => by
    have := pf_le M Y N s k
    unfold pf
    split <;> omega
theorem pf_s (M Y N s k : Nat) : pf M Y N s (k + 1) = if k / 8 + k % 8 ≤ M ∧ st3 (k / 8) (k % 8) = s then min (chg (k / 8) (k % 8) Y N) (pf M Y N s k) else pf M Y N s k := rfl
theorem pf_skip {M Y N s j : Nat} : ∀ d, (∀ k, j ≤ k → k < j + d → M < k / 8 + k % 8) → pf M Y N s (j + d) = pf M Y N s j
  | 0, _ => rfl
  | d + 1, h => by
    rw [show j + (d + 1) = (j + d) + 1 from rfl, pf_s, if_neg (fun q => by have := h (j + d) (by omega) (by omega); omega)]
    exact pf_skip d (fun k h1 h2 => h k h1 (by omega))
def chI (a b Y N : Int32) : Int32 := ((if (0 : Int32) < (a - Y) then (a - Y) else (0 : Int32)) + (if (0 : Int32) < (b - N) then (b - N) else (0 : Int32))) + (if (0 : Int32) < (((Y + N) - a) - b) then (((Y + N) - a) - b) else (0 : Int32))
set_option maxRecDepth 100000 in
theorem ch_all : ∀ a, a < 8 → ∀ b, b < 8 → ∀ Y, Y < 8 → ∀ N, N < 8 → chI (nI a) (nI b) (nI Y) (nI N) = nI (chg a b Y N) := by decide +kernel
def cY (h : Hs) (b : Bt) (i : Nat) : Nat := cn (fun p => decide (b p i = 1)) (hM h)
def cN (h : Hs) (b : Bt) (i : Nat) : Nat := cn (fun p => decide (b p i = 0)) (hM h)
theorem cYN_le (h : Hs) (b : Bt) (i : Nat) : cY h b i + cN h b i ≤ hM h := by
  unfold cY cN
  have : ∀ n, cn (fun p => decide (b p i = 1)) n + cn (fun p => decide (b p i = 0)) n ≤ n := by
    intro n
    induction n with
    | zero => exact Nat.le_refl 0
    | succ n ih =>
      show (cn _ n + _) + (cn _ n + _) ≤ n + 1
      by_cases c1 : b n i = 1
      · have c0 : ¬ b n i = 0 := by omega
        simp [c1]; omega
      · by_cases c0 : b n i = 0
        · simp [c0]; omega
        · simp [c0, c1]; omega
  exact this _
theorem changesTo_eq {σ : St} {P Q a b i : Nat} {μ : Mm} (y : HY σ P Q μ) (ha : a < 8) (hb : b < 8) (hi : i < 5) : f_X9_changesTo μ 0 (nI i) (nI a) (nI b) = some (nI (chg a b (cY (sH σ) (sB σ) i) (cN (sH σ) (sB σ) i)), μ) := by
  have hr := y.2.1
  have hM7 := y.hk.2.2.2.1
  rw [← ch_all a ha b hb (cY (sH σ) (sB σ) i) (cn8 _ hM7) (cN (sH σ) (sB σ) i) (cn8 _ hM7)]
  unfold f_X9_changesTo
  rw [rd hr (rt_0_4 P Q), bR_s, yesOf_eq hr bal_19 hi, bC_s, (y.cb.1 i hi).1, yS, bc_eq μ (bset7 _ hM7), bC_s, rd hr (rt_0_4 P Q), bR_s, noOf_eq hr bal_19 hi, bC_s, (y.cb.1 i hi).2, nS, bc_eq μ (bset7 _ hM7), bC_s, pc_bset _ hM7, pc_bset _ hM7, bI_s]
  rfl
theorem nI_min {a b : Nat} (ha : a < 2 ^ 31) (hb : b < 2 ^ 31) : (if nI a < nI b then nI a else nI b) = nI (min a b) := by
  by_cases c : a < b
  · rw [if_pos (nI_lt c hb), Nat.min_eq_left (by omega)]
  · rw [if_neg (nI_nlt (by omega) ha), Nat.min_eq_right (by omega)]
theorem chg_le {a b Y N : Nat} (ha : a < 8) (hb : b < 8) (hY : Y < 8) (hN : N < 8) : chg a b Y N < 100 := by
  unfold chg
  omega
theorem price_in {σ : St} {P Q i s a : Nat} {μ : Mm} (y : HY σ P Q μ) (hi : i < 5) (hs : s < 3) (ha : a ≤ hM (sH σ)) (rc : Mm → Nat → Int32 → Int32 → Int32 → Int32 → Option (Int32 × Mm)) : ∀ (m b f : Nat), a + b + m = hM (sH σ) + 1 → m < f →
    f_X9_priceOf_L22 rc f μ 0 (nI i) (nI s) (nI (pf (hM (sH σ)) (cY (sH σ) (sB σ) i) (cN (sH σ) (sB σ) i) s (8 * a + b))) (nI a) (nI b) = rc μ 0 (nI i) (nI s) (nI (pf (hM (sH σ)) (cY (sH σ) (sB σ) i) (cN (sH σ) (sB σ) i) s (8 * (a + 1)))) (nI (a + 1)) := by
  have hr := y.2.1
  have hM7 := y.hk.2.2.2.1
  intro m
  induction m with
  | zero =>
    intro b f hm hf
    obtain ⟨f, rfl⟩ := fs1 hf
    show f_X9_priceOf_L22b _ _ _ _ _ _ _ _ _ = _
    unfold f_X9_priceOf_L22b
    have e := pf_skip (M := hM (sH σ)) (Y := cY (sH σ) (sB σ) i) (N := cN (sH σ) (sB σ) i) (s := s) (j := 8 * a + b) (8 - b) (fun k h1 h2 => by omega)
    rw [show 8 * a + b + (8 - b) = 8 * (a + 1) by omega] at e
    rw [rd hr (rt_p P Q), bR_s, y.ch.2.2.2.2.1, pk_sub ha, if_pos (nI_lt (by omega) (by omega)), nI_p1, e]
  | succ m ih =>
    intro b f hm hf
    obtain ⟨f, rfl⟩ := fs1 hf
    have h8 := pf_le (hM (sH σ)) (cY (sH σ) (sB σ) i) (cN (sH σ) (sB σ) i) s (8 * a + b)
    have hst := st3_le a b
    have hcl : chg a b (cY (sH σ) (sB σ) i) (cN (sH σ) (sB σ) i) < 100 := chg_le (by omega) (by omega) (cn8 _ hM7) (cn8 _ hM7)
    rw [← ih (b + 1) f (by omega) (by omega), show 8 * a + (b + 1) = (8 * a + b) + 1 from rfl, pf_s, show (8 * a + b) / 8 = a by omega, show (8 * a + b) % 8 = b by omega]
    show f_X9_priceOf_L22b _ _ _ _ _ _ _ _ _ = _
    unfold f_X9_priceOf_L22b f_X9_priceOf_j63
    rw [rd hr (rt_p P Q), bR_s, y.ch.2.2.2.2.1, pk_sub ha, if_neg (nI_nlt (by omega) (by omega)), standBy_eq μ (by omega) (by omega), bC_s, nI_p1]
    by_cases c : st3 a b = s
    · rw [if_pos (by rw [c]), if_pos ⟨by omega, c⟩, changesTo_eq y (by omega) (by omega) hi, bC_s, bI_s, nI_min (by omega) (by omega)]
    · rw [if_neg (nI_ne c (by omega) (by omega)), if_neg (fun q => c q.2)]
theorem price_out {σ : St} {P Q i s : Nat} {μ : Mm} (y : HY σ P Q μ) (hi : i < 5) (hs : s < 3) : ∀ (m a f : Nat), a + m = hM (sH σ) + 1 → m < f →
    f_X9_priceOf_L7 f μ 0 (nI i) (nI s) (nI (pf (hM (sH σ)) (cY (sH σ) (sB σ) i) (cN (sH σ) (sB σ) i) s (8 * a))) (nI a) = some (nI (pf (hM (sH σ)) (cY (sH σ) (sB σ) i) (cN (sH σ) (sB σ) i) s 64), μ) := by
  have hr := y.2.1
  have hM7 := y.hk.2.2.2.1
  intro m
  induction m with
  | zero =>
    intro a f hm hf
    obtain ⟨f, rfl⟩ := fs1 hf
    show f_X9_priceOf_L7b _ _ _ _ _ _ _ = _
    unfold f_X9_priceOf_L7b
    have e := pf_skip (M := hM (sH σ)) (Y := cY (sH σ) (sB σ) i) (N := cN (sH σ) (sB σ) i) (s := s) (j := 8 * a) (64 - 8 * a) (fun k h1 h2 => by omega)
    rw [show 8 * a + (64 - 8 * a) = 64 by omega] at e
    rw [rd hr (rt_p P Q), bR_s, y.ch.2.2.2.2.1, if_pos (nI_lt (by omega) (by omega)), e]
  | succ m ih =>
    intro a f hm hf
    obtain ⟨f, rfl⟩ := fs1 hf
    show f_X9_priceOf_L7b _ _ _ _ _ _ _ = _
    unfold f_X9_priceOf_L7b
    rw [rd hr (rt_p P Q), bR_s, y.ch.2.2.2.2.1, if_neg (nI_nlt (by omega) (by omega))]
    refine Eq.trans (price_in y hi hs (by omega) _ (hM (sH σ) + 1 - a) 0 FU (by omega) (by rw [FU_eq]; omega)) ?_
    exact ih (a + 1) f (by omega) (by omega)
/-- what it costs that the item i stands so -/
def pri (h : Hs) (b : Bt) (i s k : Nat) : Nat := pf (hM h) (cY h b i) (cN h b i) s k
theorem priceOf_eq {σ : St} {P Q i s : Nat} {μ : Mm} (y : HY σ P Q μ) (hi : i < 5) (hs : s < 3) : f_X9_priceOf μ 0 (nI i) (nI s) = some (nI (pri (sH σ) (sB σ) i s 64), μ) :=
  price_out y hi hs (hM (sH σ) + 1) 0 FU (by omega) (by rw [FU_eq]; have := y.hk.2.2.2.1; omega)
def CP (μ : Mm) (a : Nat) (h : Hs) (b : Bt) (n : Nat) : Prop := ∀ i, i < n → ∀ s, s < 3 → μ.1 a (3 * i + s) = nI (pri h b i s 64)
theorem fillin {σ : St} {P Q i : Nat} (hi : i < 5) (rc : Mm → Nat → Int32 → Option Mm) : ∀ (m s f : Nat) (μ : Mm), HY σ P Q μ → s + m = 3 → m < f → CP μ 97 (sH σ) (sB σ) i → (∀ t, t < s → μ.1 97 (3 * i + t) = nI (pri (sH σ) (sB σ) i t 64)) →
    ∃ μ', f_X9_fillPrices_L9 rc f μ 0 (nI i) (nI s) = rc μ' 0 (nI (i + 1)) ∧ Ag μ μ' (fun a => a = 97) ∧ CP μ' 97 (sH σ) (sB σ) (i + 1) := by
  intro m
  induction m with
  | zero =>
    intro s f μ y hm hf hc ht
    obtain ⟨f, rfl⟩ := fs1 hf
    refine ⟨μ, ?_, Ag.rf, fun j hj t h3 => ?_⟩
    · show f_X9_fillPrices_L9b _ _ _ _ _ _ = _
      unfold f_X9_fillPrices_L9b
      rw [show s = 3 by omega, if_pos (by decide), nI_p1]
    · by_cases q : j = i
      · rw [q]; exact ht t (by omega)
      · exact hc j (by omega) t h3
  | succ m ih =>
    intro s f μ y hm hf hc ht
    obtain ⟨f, rfl⟩ := fs1 hf
    have g : Ag μ (up2 μ.1 97 (3 * i + s) (nI (pri (sH σ) (sB σ) i s 64)), μ.2) (fun a => a = 97) := Ag.up rfl
    obtain ⟨μ', e1, e2, e3⟩ := ih (s + 1) f (up2 μ.1 97 (3 * i + s) (nI (pri (sH σ) (sB σ) i s 64)), μ.2) (y.c (g.wk (fun a q => by omega))) (by omega) (by omega) (fun j hj t h3 => by
      show up2 μ.1 97 (3 * i + s) _ 97 (3 * j + t) = _
      rw [up2_nk (by omega)]; exact hc j hj t h3) (fun t h3 => by
      show up2 μ.1 97 (3 * i + s) _ 97 (3 * i + t) = _
      by_cases q : t = s
      · rw [q, up2_at]
      · rw [up2_nk (by omega)]; exact ht t (by omega))
    refine ⟨μ', ?_, g.tr e2, e3⟩
    show f_X9_fillPrices_L9b _ _ _ _ _ _ = _
    unfold f_X9_fillPrices_L9b
    have hs3 : s = 0 ∨ s = 1 ∨ s = 2 := by omega
    have e : nI i * (3 : Int32) + nI s = nI (3 * i + s) := by rw [nI_3, nI_add, Nat.mul_comm]
    rw [if_neg (show ¬ (3 : Int32) ≤ nI s from nI_ge (b := 3) (by omega) (by omega)), rd y.2.1 (rt_0_11 P Q), bR_s, priceOf_eq y hi (by omega), bC_s, e, ckb_n (show 3 * i + s < ln 97 by show _ < 15; omega) (by decide), gd_t, nI_clamp (by omega), bM_s, nI_p1]
    exact e1
theorem fill_loop {σ : St} {P Q : Nat} : ∀ (m i f : Nat) (μ : Mm), HY σ P Q μ → i + m = 5 → m < f → CP μ 97 (sH σ) (sB σ) i →
    ∃ μ', f_X9_fillPrices_L2 f μ 0 (nI i) = some μ' ∧ Ag μ μ' (fun a => a = 97) ∧ CP μ' 97 (sH σ) (sB σ) 5 := by
  intro m
  induction m with
  | zero =>
    intro i f μ y hm hf hc
    obtain ⟨f, rfl⟩ := fs1 hf
    refine ⟨μ, ?_, Ag.rf, by rw [← show i = 5 by omega]; exact hc⟩
    show f_X9_fillPrices_L2b _ _ _ _ = _
    unfold f_X9_fillPrices_L2b
    rw [show i = 5 by omega, if_pos (by decide)]
  | succ m ih =>
    intro i f μ y hm hf hc
    obtain ⟨f, rfl⟩ := fs1 hf
    obtain ⟨μ1, d1, d2, d3⟩ := fillin (show i < 5 by omega) (f_X9_fillPrices_L2 f) 3 0 FU μ y (by omega) (by rw [FU_eq]; omega) hc (fun t h => absurd h (by omega))
    obtain ⟨μ', e1, e2, e3⟩ := ih (i + 1) f μ1 (y.c (d2.wk (fun a q => by omega))) (by omega) (by omega) d3
    refine ⟨μ', ?_, d2.tr e2, e3⟩
    show f_X9_fillPrices_L2b _ _ _ _ = _
    unfold f_X9_fillPrices_L2b
    rw [if_neg (show ¬ (5 : Int32) ≤ nI i from nI_ge (b := 5) (by omega) (by omega))]
    exact d1.trans e1
/-! the reference's costs -/
theorem both_eq (μ : Mm) {a b : Nat} (ha : a < 2 ^ 31) (hb : b < 2 ^ 31) : f_X10_both μ (nI a) (nI b) = some (nI (min a b), μ) := by
  unfold f_X10_both
  by_cases c : a < b
  · rw [if_neg (nI_ge c hb), Nat.min_eq_left (by omega)]
  · rw [if_pos (nI_le (by omega) ha), Nat.min_eq_right (by omega)]
def CQ (μ : Mm) (h : Hs) (b : Bt) (i k : Nat) : Prop := ∀ j, j < 5 → ∀ s, s < 3 → μ.1 123 (3 * j + s) = nI (pri h b j s (if j < i then 64 else if j = i then k else 0))
theorem mcost_in {σ : St} {P Q i : Nat} (hi : i < 5) (rc : Mm → Nat → Int32 → Option Mm) : ∀ (m k f : Nat) (μ : Mm), HY σ P Q μ → k + m = 64 → m < f → CQ μ (sH σ) (sB σ) i k →
    ∃ μ', f_X10_findCosts_L66 rc f μ 107 (nI i) (nI (cY (sH σ) (sB σ) i)) (nI (cN (sH σ) (sB σ) i)) (nI (hM (sH σ) - cY (sH σ) (sB σ) i - cN (sH σ) (sB σ) i)) (nI k) = rc μ' 107 (nI (i + 1)) ∧ Ag μ μ' (fun a => a = 123) ∧ CQ μ' (sH σ) (sB σ) i 64 := by
  intro m
  induction m with
  | zero =>
    intro k f μ y hm hf hc
    obtain ⟨f, rfl⟩ := fs1 hf
    refine ⟨μ, ?_, Ag.rf, by rw [← show k = 64 by omega]; exact hc⟩
    show f_X10_findCosts_L66b _ _ _ _ _ _ _ _ _ = _
    unfold f_X10_findCosts_L66b
    rw [show k = 64 by omega, if_pos (by decide), nI_p1]
  | succ m ih =>
    intro k f μ y hm hf hc
    obtain ⟨f, rfl⟩ := fs1 hf
    have hM7 := y.hk.2.2.2.1
    have hYN := cYN_le (sH σ) (sB σ) i
    show ∃ μ', f_X10_findCosts_L66b _ _ _ _ _ _ _ _ _ = _ ∧ _
    unfold f_X10_findCosts_L66b f_X10_findCosts_j168
    rw [if_neg (show ¬ (64 : Int32) ≤ nI k from nI_ge (b := 64) (by omega) (by omega)), show nI k - nI k / (8 : Int32) * (8 : Int32) = nI (k % 8) from pk_rem (d := 8) (by omega) (by omega) (by omega), show nI k / (8 : Int32) = nI (k / 8) from pk_div (d := 8) (by omega) (by omega) (by omega), bI_s, bI_s, nI_add, y.mh.2.2.2.2.1, nI_p1]
    by_cases c : k / 8 + k % 8 ≤ hM (sH σ)
    · have hst := st3_le (k / 8) (k % 8)
      have hold := hc i hi (st3 (k / 8) (k % 8)) (by omega)
      rw [if_neg (Nat.lt_irrefl i), if_pos rfl] at hold
      have hpl := pf_le (hM (sH σ)) (cY (sH σ) (sB σ) i) (cN (sH σ) (sB σ) i) (st3 (k / 8) (k % 8)) k
      have hpl : pri (sH σ) (sB σ) i (st3 (k / 8) (k % 8)) k ≤ 1000 := hpl
      have e3 : (3 : Int32) * nI i + nI (st3 (k / 8) (k % 8)) = nI (3 * i + st3 (k / 8) (k % 8)) := by
        show nI 3 * nI i + _ = _
        rw [pk_mul, nI_add]
      have hcb : ckb (nI (3 * i + st3 (k / 8) (k % 8))) (ln 123) = true := ckb_n (show _ < 15 by omega) (by decide)
      have hch : hM (sH σ) - (min (k / 8) (cY (sH σ) (sB σ) i) + min (k % 8) (cN (sH σ) (sB σ) i) + min (hM (sH σ) - k / 8 - k % 8) (hM (sH σ) - cY (sH σ) (sB σ) i - cN (sH σ) (sB σ) i)) = chg (k / 8) (k % 8) (cY (sH σ) (sB σ) i) (cN (sH σ) (sB σ) i) := by
        unfold chg
        omega
      have hcl : chg (k / 8) (k % 8) (cY (sH σ) (sB σ) i) (cN (sH σ) (sB σ) i) < 100 := chg_le (by omega) (by omega) (by omega) (by omega)
      have hsm : min (k / 8) (cY (sH σ) (sB σ) i) + min (k % 8) (cN (sH σ) (sB σ) i) + min (hM (sH σ) - k / 8 - k % 8) (hM (sH σ) - cY (sH σ) (sB σ) i - cN (sH σ) (sB σ) i) ≤ hM (sH σ) := by omega
      have g : Ag μ (up2 μ.1 123 (3 * i + st3 (k / 8) (k % 8)) (nI (min (pri (sH σ) (sB σ) i (st3 (k / 8) (k % 8)) k) (chg (k / 8) (k % 8) (cY (sH σ) (sB σ) i) (cN (sH σ) (sB σ) i)))), μ.2) (fun a => a = 123) := Ag.up rfl
      obtain ⟨μ', f1, f2, f3⟩ := ih (k + 1) f _ (y.m (g.wk (fun a q => by omega))) (by omega) (by omega) (fun j hj s hs => by
        show up2 μ.1 123 _ _ 123 (3 * j + s) = _
        by_cases q : j = i
        · subst q
          rw [if_neg (Nat.lt_irrefl j), if_pos rfl]
          have hp : pri (sH σ) (sB σ) j s (k + 1) = if k / 8 + k % 8 ≤ hM (sH σ) ∧ st3 (k / 8) (k % 8) = s then min (chg (k / 8) (k % 8) (cY (sH σ) (sB σ) j) (cN (sH σ) (sB σ) j)) (pri (sH σ) (sB σ) j s k) else pri (sH σ) (sB σ) j s k := rfl
          by_cases r : st3 (k / 8) (k % 8) = s
          · rw [hp, if_pos ⟨c, r⟩, r, up2_at, Nat.min_comm]
          · rw [hp, if_neg (fun w => r w.2), up2_nk (by omega)]
            have := hc j hj s hs
            rw [if_neg (Nat.lt_irrefl j), if_pos rfl] at this
            exact this
        · rw [up2_nk (by omega)]
          have := hc j hj s hs
          rw [if_neg q] at this ⊢
          exact this)
      refine ⟨μ', ?_, g.tr f2, f3⟩
      rw [if_neg (nI_nlt (by omega) (by omega)), both_eq μ (by omega) (by omega), bC_s, both_eq μ (by omega) (by omega), bC_s, y.mh.2.2.2.2.1, pk_sub (by omega), pk_sub (by omega), both_eq μ (by omega) (by omega), bC_s, nI_add, nI_add, bI_s, standsBy_eq μ (by omega) (by omega), bC_s, e3, bI_s, rd y.2.1 (rt_107_29 P Q), bR_s, bR_s, hcb, gd_t, nI_clamp (by omega), hold, y.mh.2.2.2.2.1, pk_sub hsm, hch, both_eq μ (by omega) (by omega), bC_s, gd_t, bM_s]
      exact f1
    · obtain ⟨μ', f1, f2, f3⟩ := ih (k + 1) f μ y (by omega) (by omega) (fun j hj s hs => by
        rw [hc j hj s hs]
        by_cases q : j = i
        · subst q
          rw [if_neg (Nat.lt_irrefl j), if_pos rfl, if_neg (Nat.lt_irrefl j), if_pos rfl]
          show nI (pf _ _ _ _ k) = nI (pf _ _ _ _ (k + 1))
          rw [pf_s, if_neg (fun w => c w.1)]
        · rw [if_neg q, if_neg q])
      refine ⟨μ', ?_, f2, f3⟩
      rw [if_pos (nI_lt (by omega) (by omega))]
      exact f1
theorem mcost_loop {σ : St} {P Q : Nat} : ∀ (m i f : Nat) (μ : Mm), HY σ P Q μ → i + m = hN (sH σ) → m < f → CQ μ (sH σ) (sB σ) i 0 →
    ∃ μ', f_X10_findCosts_L25 f μ 107 (nI i) = some μ' ∧ Ag μ μ' (fun a => a = 123) ∧ CP μ' 123 (sH σ) (sB σ) (hN (sH σ)) := by
  intro m
  induction m with
  | zero =>
    intro i f μ y hm hf hc
    obtain ⟨f, rfl⟩ := fs1 hf
    have hN5 := y.hk.2.2.1
    refine ⟨μ, ?_, Ag.rf, fun j hj s hs => ?_⟩
    · show f_X10_findCosts_L25b _ _ _ _ = _
      unfold f_X10_findCosts_L25b
      rw [y.mh.2.2.2.1, if_pos (nI_le (by omega) (by omega))]
    · have := hc j (by omega) s hs
      rw [if_pos (by omega)] at this
      exact this
  | succ m ih =>
    intro i f μ y hm hf hc
    obtain ⟨f, rfl⟩ := fs1 hf
    have hN5 := y.hk.2.2.1
    have hM7 := y.hk.2.2.2.1
    have hYN := cYN_le (sH σ) (sB σ) i
    have v1 : f_X10_voters μ 107 (nI i) 1 = some (nI (yS (sH σ) (sB σ) i), μ) := voters_eq (v := 1) y.2.1 hM7 y.mh.2.2.2.2.1 y.mb y.bk (show i < 5 by omega) (by omega)
    have v0 : f_X10_voters μ 107 (nI i) 0 = some (nI (nS (sH σ) (sB σ) i), μ) := voters_eq (v := 0) y.2.1 hM7 y.mh.2.2.2.2.1 y.mb y.bk (show i < 5 by omega) (by omega)
    obtain ⟨μ1, d1, d2, d3⟩ := mcost_in (show i < 5 by omega) (f_X10_findCosts_L25 f) 64 0 FU μ y (by omega) (by rw [FU_eq]; omega) hc
    obtain ⟨μ', e1, e2, e3⟩ := ih (i + 1) f μ1 (y.m (d2.wk (fun a q => by omega))) (by omega) (by omega) (fun j hj s hs => by
      rw [d3 j hj s hs]
      by_cases q : j < i
      · rw [if_pos q, if_pos (by omega)]
      · by_cases r : j = i
        · rw [if_neg q, if_pos r, if_pos (by omega)]
        · rw [if_neg q, if_neg r, if_neg (by omega)]
          split <;> rfl)
    refine ⟨μ', ?_, d2.tr e2, e3⟩
    show f_X10_findCosts_L25b _ _ _ _ = _
    unfold f_X10_findCosts_L25b
    rw [y.mh.2.2.2.1, if_neg (nI_ge (by omega) (by omega)), v1, bC_s, yS, bt_eq μ (bset7 _ hM7), bC_s, v0, bC_s, nS, bt_eq μ (bset7 _ hM7), bC_s, pc_bset _ hM7, pc_bset _ hM7, y.mh.2.2.2.2.1, show nI (hM (sH σ)) - nI (cn (fun p => decide (sB σ p i = 1)) (hM (sH σ))) - nI (cn (fun p => decide (sB σ p i = 0)) (hM (sH σ))) = nI (hM (sH σ) - cY (sH σ) (sB σ) i - cN (sH σ) (sB σ) i) from by show nI (hM (sH σ)) - nI (cY (sH σ) (sB σ) i) - nI (cN (sH σ) (sB σ) i) = _; rw [pk_sub (by omega), pk_sub (by omega)], bI_s]
    exact d1.trans e1
theorem mcost_init {σ : St} {P Q : Nat} : ∀ (m k f : Nat) (μ : Mm), HY σ P Q μ → k + m = 15 → m < f → (∀ j, j < k → μ.1 123 j = nI 1000) →
    ∃ μ', f_X10_findCosts_L2 f μ 107 (nI k) = some μ' ∧ Ag μ μ' (fun a => a = 123) ∧ CP μ' 123 (sH σ) (sB σ) (hN (sH σ)) := by
  intro m
  induction m with
  | zero =>
    intro k f μ y hm hf hc
    obtain ⟨f, rfl⟩ := fs1 hf
    have hN5 := y.hk.2.2.1
    obtain ⟨μ', e1, e2, e3⟩ := mcost_loop (hN (sH σ)) 0 FU μ y (by omega) (by rw [FU_eq]; omega) (fun j hj s hs => by
      rw [hc (3 * j + s) (by omega), if_neg (Nat.not_lt_zero _)]
      split <;> rfl)
    refine ⟨μ', ?_, e2, e3⟩
    show f_X10_findCosts_L2b _ _ _ _ = _
    unfold f_X10_findCosts_L2b
    rw [show k = 15 by omega, if_pos (by decide)]
    exact e1
  | succ m ih =>
    intro k f μ y hm hf hc
    obtain ⟨f, rfl⟩ := fs1 hf
    have g : Ag μ (up2 μ.1 123 k (nI 1000), μ.2) (fun a => a = 123) := Ag.up rfl
    obtain ⟨μ', e1, e2, e3⟩ := ih (k + 1) f _ (y.m (g.wk (fun a q => by omega))) (by omega) (by omega) (fun j hj => by
      show up2 μ.1 123 k _ 123 j = _
      by_cases q : j = k
      · rw [q, up2_at]
      · rw [up2_nk q]; exact hc j (by omega))
    refine ⟨μ', ?_, g.tr e2, e3⟩
    show f_X10_findCosts_L2b _ _ _ _ = _
    unfold f_X10_findCosts_L2b
    rw [if_neg (show ¬ (15 : Int32) ≤ nI k from nI_ge (b := 15) (by omega) (by omega)), rd y.2.1 (rt_107_29 P Q), bR_s, ckb_n (show k < ln 123 by show k < 15; omega) (by decide), gd_t, bM_s, nI_clamp (by omega), nI_p1]
    exact e1
