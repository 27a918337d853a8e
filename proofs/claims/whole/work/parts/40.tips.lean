/-! tips, carry -/
def sd (x : Int32) : Int32 := if 0 < x then (if x = (1 : Int32) then 1 else 2) else 0
theorem sd_c (μ : Mm) (x : Int32) : f_X9_standBy μ x = some (sd x, μ) := by
  unfold f_X9_standBy sd
  split
  · split <;> rfl
  · rfl
theorem sd_m (μ : Mm) (x : Int32) : f_X10_standsBy μ x = some (sd x, μ) := by
  unfold f_X10_standsBy sd
  by_cases c : (1 : Int32) ≤ x
  · have h := c
    rw [Int32.le_iff_toInt_le, show (1 : Int32).toInt = 1 from rfl] at h
    rw [if_pos c, if_pos (show (0 : Int32) < x by rw [Int32.lt_iff_toInt_lt, Int32.toInt_zero]; omega)]
    split <;> rfl
  · have h := c
    rw [Int32.le_iff_toInt_le, show (1 : Int32).toInt = 1 from rfl] at h
    rw [if_neg c, if_neg (show ¬ (0 : Int32) < x by rw [Int32.lt_iff_toInt_lt, Int32.toInt_zero]; omega)]
def wt (v : Nat) : Int32 := if v = 1 then 1 else if v = 0 then -1 else 0
/-- nobody's vote, he has what he has -/
def tp (L w : Int32) : Bool := decide (sd (L - w - 1) = sd L) && (decide (sd (L - w) = sd L) && decide (sd (L - w + 1) = sd L))
def ld (h : Hs) (b : Bt) (i : Nat) : Int32 := nI (cn (fun p => decide (b p i = 1)) (hM h)) - nI (cn (fun p => decide (b p i = 0)) (hM h))
def tpS (h : Hs) (b : Bt) (i : Nat) : Nat → Int32
  | 0 => 0
  | p + 1 => if tp (ld h b i) (wt (b p i)) = true then tpS h b i p else tpS h b i p ||| ((1 : Int32) <<< (nI p &&& 31))
theorem canTip_eq {σ : St} {P Q p i : Nat} {μ : Mm} (y : HY σ P Q μ) (hp : p < hM (sH σ)) (hi : i < 5) : f_X9_canTip μ 0 (nI p) (nI i) = some (bz (!(tp (ld (sH σ) (sB σ) i) (wt (sB σ p i)))), μ) := by
  have hr := y.2.1
  have hM7 := y.hk.2.2.2.1
  have hl : f_X0_leadOf μ 19 (nI i) = some (ld (sH σ) (sB σ) i, μ) := leadOf_eq hr bal_19 hM7 y.cb hi
  have hs : f_X0_standOf μ 19 (nI i) = some (sd (ld (sH σ) (sB σ) i), μ) := by
    unfold f_X0_standOf
    rw [hl, bC_s, sd_c, bC_s]
  unfold f_X9_canTip f_X9_canTip_j63
  rw [rd hr (rt_0_4 P Q), bR_s, hs, bC_s, rd hr (rt_0_4 P Q), bR_s, hl, bC_s, rd hr (rt_0_4 P Q), bR_s, howOf_eq hr bal_19 hM7 y.cb y.bk hi hp, bC_s, weightOf_eq μ (y.bk.1 p hp i hi), bC_s, bI_s, sd_c, bC_s, sd_c, bC_s, sd_c, bC_s]
  show (if sd (ld (sH σ) (sB σ) i - wt (sB σ p i) - 1) = sd (ld (sH σ) (sB σ) i) then (if sd (ld (sH σ) (sB σ) i - wt (sB σ p i)) = sd (ld (sH σ) (sB σ) i) then (if sd (ld (sH σ) (sB σ) i - wt (sB σ p i) + 1) = sd (ld (sH σ) (sB σ) i) then some ((0 : Int32), μ) else some ((1 : Int32), μ)) else some ((1 : Int32), μ)) else some ((1 : Int32), μ)) = _
  unfold tp
  by_cases c1 : sd (ld (sH σ) (sB σ) i - wt (sB σ p i) - 1) = sd (ld (sH σ) (sB σ) i)
  · by_cases c2 : sd (ld (sH σ) (sB σ) i - wt (sB σ p i)) = sd (ld (sH σ) (sB σ) i)
    · by_cases c3 : sd (ld (sH σ) (sB σ) i - wt (sB σ p i) + 1) = sd (ld (sH σ) (sB σ) i)
      · rw [if_pos c1, if_pos c2, if_pos c3, decide_eq_true c1, decide_eq_true c2, decide_eq_true c3]; rfl
      · rw [if_pos c1, if_pos c2, if_neg c3, decide_eq_true c1, decide_eq_true c2, decide_eq_false c3]; rfl
    · rw [if_pos c1, if_neg c2, decide_eq_true c1, decide_eq_false c2]; rfl
  · rw [if_neg c1, decide_eq_false c1]; rfl
theorem tips_loop {σ : St} {P Q i : Nat} {μ : Mm} (y : HY σ P Q μ) (hi : i < 5) : ∀ (m k f : Nat), k + m = hM (sH σ) → m < f →
    f_X9_tips_L18 f μ 0 (nI i) (tpS (sH σ) (sB σ) i k) (nI k) = some (tpS (sH σ) (sB σ) i (hM (sH σ)), μ) := by
  have hM7 := y.hk.2.2.2.1
  intro m
  induction m with
  | zero =>
    intro k f hkm hf
    obtain ⟨f, rfl⟩ := fs1 hf
    show f_X9_tips_L18b _ _ _ _ _ _ = _
    unfold f_X9_tips_L18b
    rw [rd y.2.1 (rt_p P Q), bR_s, y.ch.2.2.2.2.1, if_pos (nI_le (by omega) (by omega)), show k = hM (sH σ) by omega]
  | succ m ih =>
    intro k f hkm hf
    obtain ⟨f, rfl⟩ := fs1 hf
    rw [← ih (k + 1) f (by omega) (by omega)]
    show f_X9_tips_L18b _ _ _ _ _ _ = f_X9_tips_L18 f μ 0 (nI i) (if tp (ld (sH σ) (sB σ) i) (wt (sB σ k i)) = true then tpS (sH σ) (sB σ) i k else tpS (sH σ) (sB σ) i k ||| ((1 : Int32) <<< (nI k &&& 31))) (nI (k + 1))
    unfold f_X9_tips_L18b f_X9_tips_j44
    rw [rd y.2.1 (rt_p P Q), bR_s, y.ch.2.2.2.2.1, if_neg (nI_ge (by omega) (by omega)), canTip_eq y (by omega) hi, bC_s, nI_p1, bI_s]
    by_cases c : tp (ld (sH σ) (sB σ) i) (wt (sB σ k i)) = true
    · rw [if_pos c, c, if_pos (show bz (!true) = 0 from rfl)]
    · rw [if_neg c, show tp (ld (sH σ) (sB σ) i) (wt (sB σ k i)) = false by simpa using c, if_neg (by decide)]
theorem t_step (rc : Mm → Nat → Int32 → Int32 → Int32 → Int32 → Option (Int32 × Mm)) (n : Nat) (μ : Mm) (a : Nat) (x1 x2 x3 x4 x6 x7 x8 : Int32) (h : ¬ (2 : Int32) ≤ x8) :
    f_X10_tips_L88 rc (n + 1) μ a x1 x2 x3 x4 x6 x7 x8 = f_X10_tips_L88 rc n μ a x1 x2 x3 x4 x6 (if x7 = 0 then (if sd (x6 + x8) = sd x2 then 0 else 1) else 1) (x8 + 1) := by
  show f_X10_tips_L88b _ _ _ _ _ _ _ _ _ _ _ = _
  unfold f_X10_tips_L88b f_X10_tips_j114 f_X10_tips_j119
  rw [if_neg h, sd_m, bC_s, sd_m, bC_s]
  split
  · split <;> rfl
  · rfl
theorem t_end (rc : Mm → Nat → Int32 → Int32 → Int32 → Int32 → Option (Int32 × Mm)) (n : Nat) (μ : Mm) (a : Nat) (x1 x2 x3 x4 x6 x7 x8 : Int32) (h : (2 : Int32) ≤ x8) :
    f_X10_tips_L88 rc (n + 1) μ a x1 x2 x3 x4 x6 x7 x8 = rc μ a x1 x2 (if x7 = 0 then x3 else x3 ||| ((1 : Int32) <<< (x4 &&& 31))) (x4 + 1) := by
  show f_X10_tips_L88b _ _ _ _ _ _ _ _ _ _ _ = _
  unfold f_X10_tips_L88b f_X10_tips_j141
  rw [if_pos h, bI_s, bI_s, i_or0]
  split <;> rfl
theorem t_all (rc : Mm → Nat → Int32 → Int32 → Int32 → Int32 → Option (Int32 × Mm)) (μ : Mm) (a : Nat) (x1 L x3 x4 w : Int32) :
    f_X10_tips_j79 rc μ a x1 L x3 x4 w L = rc μ a x1 L (if tp L w = true then x3 else x3 ||| ((1 : Int32) <<< (x4 &&& 31))) (x4 + 1) := by
  unfold f_X10_tips_j79
  rw [bI_s, show FU = 996 + 1 + 1 + 1 + 1 from rfl, t_step _ _ _ _ _ _ _ _ _ _ _ (by decide), t_step _ _ _ _ _ _ _ _ _ _ _ (by decide), t_step _ _ _ _ _ _ _ _ _ _ _ (by decide), t_end _ _ _ _ _ _ _ _ _ _ _ (by decide)]
  rw [i_addn, show (-1 : Int32) + 1 = 0 from rfl, i_add0, show (0 : Int32) + 1 = 1 from rfl]
  unfold tp
  by_cases c1 : sd (L - w - 1) = sd L
  · by_cases c2 : sd (L - w) = sd L
    · by_cases c3 : sd (L - w + 1) = sd L
      · rw [decide_eq_true c1, decide_eq_true c2, decide_eq_true c3]
        simp [c1, c2, c3]
      · rw [decide_eq_true c1, decide_eq_true c2, decide_eq_false c3]
        simp [c1, c2, c3]
    · rw [decide_eq_true c1, decide_eq_false c2]
      simp [c1, c2]
  · rw [decide_eq_false c1]
    simp [c1]
theorem mtips_loop {σ : St} {P Q i : Nat} {μ : Mm} (y : HY σ P Q μ) (hi : i < 5) : ∀ (m k f : Nat), k + m = hM (sH σ) → m < f →
    f_X10_tips_L36 f μ 107 (nI i) (ld (sH σ) (sB σ) i) (tpS (sH σ) (sB σ) i k) (nI k) = some (tpS (sH σ) (sB σ) i (hM (sH σ)), μ) := by
  have hM7 := y.hk.2.2.2.1
  intro m
  induction m with
  | zero =>
    intro k f hkm hf
    obtain ⟨f, rfl⟩ := fs1 hf
    show f_X10_tips_L36b _ _ _ _ _ _ _ = _
    unfold f_X10_tips_L36b
    rw [y.mh.2.2.2.2.1, if_pos (nI_le (by omega) (by omega)), show k = hM (sH σ) by omega]
  | succ m ih =>
    intro k f hkm hf
    obtain ⟨f, rfl⟩ := fs1 hf
    have h2 := y.bk.1 k (by omega) i hi
    have e := y.mb.1 k (by omega) i hi
    rw [Nat.zero_add] at e
    rw [← ih (k + 1) f (by omega) (by omega)]
    show f_X10_tips_L36b _ _ _ _ _ _ _ = f_X10_tips_L36 f μ 107 (nI i) (ld (sH σ) (sB σ) i) (if tp (ld (sH σ) (sB σ) i) (wt (sB σ k i)) = true then tpS (sH σ) (sB σ) i k else tpS (sH σ) (sB σ) i k ||| ((1 : Int32) <<< (nI k &&& 31))) (nI (k + 1))
    unfold f_X10_tips_L36b
    rw [y.mh.2.2.2.2.1, if_neg (nI_ge (by omega) (by omega)), rd y.2.1 (rt_107_8 P Q), bR_s, nI_5, ckb_n (show 5 * k + i < ln 112 by show _ < 37; omega) (by decide), gd_t, nI_clamp (by omega), e, bI_s, t_all, t_all, t_all, nI_p1]
    have : sB σ k i = 0 ∨ sB σ k i = 1 ∨ sB σ k i = 2 := by omega
    rcases this with q0 | q0 | q0 <;> rw [q0] <;> rfl
theorem st_tips : Sp1 Inv f_X9_tips f_X10_tips := by
  intro μ x hI
  obtain ⟨σ, P, Q, y⟩ := id hI
  have hr := y.2.1
  have hN5 := y.hk.2.2.1
  have hM7 := y.hk.2.2.2.1
  unfold f_X9_tips f_X10_tips
  rw [rd hr (rt_p P Q), bR_s, hasItem_eq y, bC_s]
  by_cases c : inI x (hN (sH σ)) = true
  · obtain ⟨i, hi, rfl⟩ := inI_j c (by omega)
    have h1 := tips_loop y (show i < 5 by omega) (hM (sH σ)) 0 FU (by omega) (by rw [FU_eq]; omega)
    have h2 := mtips_loop y (show i < 5 by omega) (hM (sH σ)) 0 FU (by omega) (by rw [FU_eq]; omega)
    have v1 := voters_eq (v := 1) hr hM7 y.mh.2.2.2.2.1 y.mb y.bk (show i < 5 by omega) (by omega)
    have v0 := voters_eq (v := 0) hr hM7 y.mh.2.2.2.2.1 y.mb y.bk (show i < 5 by omega) (by omega)
    rw [if_neg (bz_t c)]
    refine ⟨_, μ, μ, h1, ?_, hI⟩
    rw [isItem_eq y, bC_s, if_neg (bz_t c)]
    show bC (f_X10_voters μ 107 (nI i) (nI 1)) (fun r6 μ5 => bC (f_X10_bits μ5 r6) (fun r9 μ8 => bC (f_X10_voters μ8 107 (nI i) (nI 0)) (fun r12 μ11 => bC (f_X10_bits μ11 r12) (fun r15 μ14 => bI (r9 - r15) (fun v17 => f_X10_tips_L36 FU μ14 107 (nI i) v17 (0 : Int32) (0 : Int32)))))) = _
    rw [v1, bC_s, bt_eq μ (bset7 _ hM7), bC_s, v0, bC_s, bt_eq μ (bset7 _ hM7), bC_s, pc_bset _ hM7, pc_bset _ hM7, bI_s]
    exact h2
  · rw [if_pos (bz_f (by simpa using c))]
    refine ⟨_, μ, μ, rfl, ?_, hI⟩
    rw [isItem_eq y, bC_s, if_pos (bz_f (by simpa using c))]
/-! carry -/
theorem bv_back (v : BitVec 32) : BitVec.ofNat 32 v.toNat = v := by simp
def andn (n w : Nat) : Nat := (nI n &&& (nI w ^^^ (-1 : Int32))).toBitVec.toNat
theorem andn_eq (n w : Nat) : nI n &&& (nI w ^^^ (-1 : Int32)) = nI (andn n w) := by
  apply Int32.toBitVec_inj.mp
  exact (bv_back _).symm
theorem andn_lt {n : Nat} (w : Nat) (h : n < 128) : andn n w < 128 := by
  unfold andn
  show (BitVec.ofNat 32 n &&& (nI w ^^^ (-1 : Int32)).toBitVec).toNat < 128
  rw [BitVec.toNat_and, BitVec.toNat_ofNat]
  exact Nat.lt_of_le_of_lt Nat.and_le_left (by omega)
theorem pc_lt (m : Nat) : pc m < 8 := Nat.lt_of_le_of_lt (cn_le _ 7) (by decide)
def cr1 (h : Hs) (b : Bt) (w i : Nat) : Bool := decide (st3 (pc (yS h b i ||| w)) (pc (andn (nS h b i) w)) = 2)
def crA (h : Hs) (b : Bt) (w : Nat) : Nat → Bool
  | 0 => true
  | k + 1 => crA h b w k && cr1 h b w k
theorem c2_all : ∀ y, y < 8 → ∀ n, n < 8 → decide (nI y - nI n ≤ (1 : Int32)) = !(decide (st3 y n = 2)) := by decide +kernel
theorem crA_f {h : Hs} {b : Bt} {w k : Nat} (q : cr1 h b w k = false) : ∀ n, k < n → crA h b w n = false
  | 0, hn => absurd hn (Nat.not_lt_zero _)
  | n + 1, hn => by
    show (crA h b w n && cr1 h b w n) = false
    by_cases e : k = n
    · rw [← e, q, Bool.and_false]
    · rw [crA_f q n (by omega), Bool.false_and]
theorem carries_loop {σ : St} {P Q w : Nat} {μ : Mm} (y : HY σ P Q μ) (hw : w < 128) : ∀ (m k f : Nat), k + m = hN (sH σ) → m < f → crA (sH σ) (sB σ) w k = true →
    f_X9_carriesAll_L2 f μ 0 (nI w) (nI k) = some (bz (crA (sH σ) (sB σ) w (hN (sH σ))), μ) := by
  have hr := y.2.1
  have hN5 := y.hk.2.2.1
  have hM7 := y.hk.2.2.2.1
  intro m
  induction m with
  | zero =>
    intro k f hkm hf ha
    obtain ⟨f, rfl⟩ := fs1 hf
    show f_X9_carriesAll_L2b _ _ _ _ _ = _
    unfold f_X9_carriesAll_L2b
    rw [rd hr (rt_p P Q), bR_s, y.ch.2.2.2.1, if_pos (nI_le (by omega) (by omega)), ← show k = hN (sH σ) by omega, ha]
    rfl
  | succ m ih =>
    intro k f hkm hf ha
    obtain ⟨f, rfl⟩ := fs1 hf
    have hy : yS (sH σ) (sB σ) k < 128 := bset7 _ hM7
    have hn : nS (sH σ) (sB σ) k < 128 := bset7 _ hM7
    show f_X9_carriesAll_L2b _ _ _ _ _ = _
    unfold f_X9_carriesAll_L2b
    rw [rd hr (rt_p P Q), bR_s, y.ch.2.2.2.1, if_neg (nI_ge (by omega) (by omega)), rd hr (rt_0_4 P Q), bR_s, yesOf_eq hr bal_19 (by omega), bC_s, (y.cb.1 k (by omega)).1, nI_or, bc_eq μ (Nat.or_lt_two_pow (n := 7) hy hw), bC_s, rd hr (rt_0_4 P Q), bR_s, noOf_eq hr bal_19 (by omega), bC_s, (y.cb.1 k (by omega)).2, andn_eq, bc_eq μ (andn_lt w hn), bC_s, standBy_eq μ (pc_lt _) (pc_lt _), bC_s, nI_p1]
    have h2 := st3_le (pc (yS (sH σ) (sB σ) k ||| w)) (pc (andn (nS (sH σ) (sB σ) k) w))
    by_cases c : st3 (pc (yS (sH σ) (sB σ) k ||| w)) (pc (andn (nS (sH σ) (sB σ) k) w)) = 2
    · rw [if_pos (by rw [c]; rfl)]
      refine ih (k + 1) f (by omega) (by omega) ?_
      show (crA (sH σ) (sB σ) w k && cr1 (sH σ) (sB σ) w k) = true
      rw [ha]
      exact decide_eq_true c
    · rw [if_neg (show ¬ nI _ = (2 : Int32) from nI_ne (b := 2) c (by omega) (by omega)), crA_f (k := k) (decide_eq_false c) _ (by omega)]
      rfl
theorem mcarries_loop {σ : St} {P Q w : Nat} {μ : Mm} (y : HY σ P Q μ) (hw : w < 128) : ∀ (m k f : Nat), k + m = hN (sH σ) → m < f →
    f_X10_carries_L4 f μ 107 (nI w) (bz (crA (sH σ) (sB σ) w k)) (nI k) = some (bz (crA (sH σ) (sB σ) w (hN (sH σ))), μ) := by
  have hr := y.2.1
  have hN5 := y.hk.2.2.1
  have hM7 := y.hk.2.2.2.1
  intro m
  induction m with
  | zero =>
    intro k f hkm hf
    obtain ⟨f, rfl⟩ := fs1 hf
    show f_X10_carries_L4b _ _ _ _ _ _ = _
    unfold f_X10_carries_L4b
    rw [y.mh.2.2.2.1, if_pos (nI_le (by omega) (by omega)), show k = hN (sH σ) by omega, ckz_bz, gd_t]
  | succ m ih =>
    intro k f hkm hf
    obtain ⟨f, rfl⟩ := fs1 hf
    have hy : yS (sH σ) (sB σ) k < 128 := bset7 _ hM7
    have hn : nS (sH σ) (sB σ) k < 128 := bset7 _ hM7
    have v1 : f_X10_voters μ 107 (nI k) 1 = some (nI (yS (sH σ) (sB σ) k), μ) := voters_eq (v := 1) hr hM7 y.mh.2.2.2.2.1 y.mb y.bk (show k < 5 by omega) (by omega)
    have v0 : f_X10_voters μ 107 (nI k) 0 = some (nI (nS (sH σ) (sB σ) k), μ) := voters_eq (v := 0) hr hM7 y.mh.2.2.2.2.1 y.mb y.bk (show k < 5 by omega) (by omega)
    rw [← ih (k + 1) f (by omega) (by omega)]
    show f_X10_carries_L4b _ _ _ _ _ _ = f_X10_carries_L4 f μ 107 (nI w) (bz (crA (sH σ) (sB σ) w k && cr1 (sH σ) (sB σ) w k)) (nI (k + 1))
    unfold f_X10_carries_L4b f_X10_carries_j57 f_X10_carries_j58
    rw [y.mh.2.2.2.1, if_neg (nI_ge (by omega) (by omega)), v1, bC_s, bI_s, v0, bC_s, bI_s, nI_p1]
    by_cases a : crA (sH σ) (sB σ) w k = true
    · rw [if_neg (bz_t a), nI_or, bt_eq μ (Nat.or_lt_two_pow (n := 7) hy hw), bC_s, andn_eq, bt_eq μ (andn_lt w hn), bC_s, a, Bool.true_and]
      have h := c2_all _ (pc_lt (yS (sH σ) (sB σ) k ||| w)) _ (pc_lt (andn (nS (sH σ) (sB σ) k) w))
      by_cases c : st3 (pc (yS (sH σ) (sB σ) k ||| w)) (pc (andn (nS (sH σ) (sB σ) k) w)) = 2
      · rw [decide_eq_true c] at h
        rw [if_neg (of_decide_eq_false h), show cr1 (sH σ) (sB σ) w k = true from decide_eq_true c]
        rfl
      · rw [decide_eq_false c] at h
        rw [if_pos (of_decide_eq_true h), show cr1 (sH σ) (sB σ) w k = false from decide_eq_false c]
        rfl
    · rw [if_pos (bz_f (by simpa using a)), show crA (sH σ) (sB σ) w k = false by simpa using a]
      rfl
def btr (B : Option Nat) (w : Nat) : Bool := match B with
  | none => true
  | some j => decide (pc w < pc j)
def crS (h : Hs) (b : Bt) : Nat → Option Nat
  | 0 => none
  | k + 1 => if (btr (crS h b k) k && crA h b k (hN h)) = true then some k else crS h b k
theorem crS_lt {h : Hs} {b : Bt} : ∀ {k j : Nat}, crS h b k = some j → j < k
  | 0, j, e => by cases (show (none : Option Nat) = some j from e)
  | k + 1, j, e => by
    have e : (if (btr (crS h b k) k && crA h b k (hN h)) = true then some k else crS h b k) = some j := e
    split at e
    · cases e; omega
    · have := crS_lt e; omega
def bI1 (B : Option Nat) : Int32 := match B with
  | none => -1
  | some j => nI j
def bI2 (B : Option Nat) : Int32 := match B with
  | none => 8
  | some j => nI (pc j)
theorem carry_loop {σ : St} {P Q : Nat} {μ : Mm} (y : HY σ P Q μ) : ∀ (m k f : Nat), k + m = 2 ^ hM (sH σ) → m < f →
    f_X9_carry_L7 f μ 0 (bI1 (crS (sH σ) (sB σ) k)) (bI2 (crS (sH σ) (sB σ) k)) (nI k) = some (bI1 (crS (sH σ) (sB σ) (2 ^ hM (sH σ))), μ) := by
  have hr := y.2.1
  have hN5 := y.hk.2.2.1
  have hM7 := y.hk.2.2.2.1
  have h2 : 2 ^ hM (sH σ) ≤ 2 ^ 7 := Nat.pow_le_pow_right (by decide) hM7
  intro m
  induction m with
  | zero =>
    intro k f hkm hf
    obtain ⟨f, rfl⟩ := fs1 hf
    show f_X9_carry_L7b _ _ _ _ _ _ = _
    unfold f_X9_carry_L7b
    rw [rd hr (rt_p P Q), bR_s, y.ch.2.2.2.2.1, shl_p _ (by omega), if_pos (nI_le (by omega) (by omega)), show k = 2 ^ hM (sH σ) by omega]
  | succ m ih =>
    intro k f hkm hf
    obtain ⟨f, rfl⟩ := fs1 hf
    have hk := pc_lt k
    have hc : f_X9_carriesAll μ 0 (nI k) = some (bz (crA (sH σ) (sB σ) k (hN (sH σ))), μ) := carries_loop y (show k < 128 by omega) (hN (sH σ)) 0 FU (by omega) (by rw [FU_eq]; omega) rfl
    rw [← ih (k + 1) f (by omega) (by omega)]
    show f_X9_carry_L7b _ _ _ _ _ _ = f_X9_carry_L7 f μ 0 (bI1 (if (btr (crS (sH σ) (sB σ) k) k && crA (sH σ) (sB σ) k (hN (sH σ))) = true then some k else crS (sH σ) (sB σ) k)) (bI2 (if (btr (crS (sH σ) (sB σ) k) k && crA (sH σ) (sB σ) k (hN (sH σ))) = true then some k else crS (sH σ) (sB σ) k)) (nI (k + 1))
    unfold f_X9_carry_L7b f_X9_carry_j45
    rw [rd hr (rt_p P Q), bR_s, y.ch.2.2.2.2.1, shl_p _ (by omega), if_neg (nI_ge (by omega) (by omega)), bc_eq μ (by omega), bC_s, hc, bC_s, nI_p1]
    have hb : (bI2 (crS (sH σ) (sB σ) k) ≤ nI (pc k)) ↔ btr (crS (sH σ) (sB σ) k) k = false := by
      generalize crS (sH σ) (sB σ) k = B
      match B with
      | none =>
        refine ⟨fun q => absurd q (show ¬ nI 8 ≤ nI (pc k) from nI_ge hk (by omega)), fun q => Bool.noConfusion (show true = false from q)⟩
      | some j =>
        have hj := pc_lt j
        show nI (pc j) ≤ nI (pc k) ↔ decide (pc k < pc j) = false
        rw [decide_eq_false_iff_not]
        refine ⟨fun q c => nI_ge c (by omega) q, fun q => nI_le (by omega) (by omega)⟩
    by_cases c : bI2 (crS (sH σ) (sB σ) k) ≤ nI (pc k)
    · rw [if_pos c, hb.mp c, Bool.false_and, if_neg (by decide)]
    · have e : btr (crS (sH σ) (sB σ) k) k = true := by
        cases q : btr (crS (sH σ) (sB σ) k) k
        · exact absurd (hb.mpr q) c
        · rfl
      rw [if_neg c, e, Bool.true_and]
      by_cases a : crA (sH σ) (sB σ) k (hN (sH σ)) = true
      · rw [if_neg (bz_t a), if_pos a]
        rfl
      · rw [if_pos (bz_f (by simpa using a)), if_neg a]
theorem mcarry_loop {σ : St} {P Q : Nat} {μ : Mm} (y : HY σ P Q μ) : ∀ (m k f : Nat), k + m = 2 ^ hM (sH σ) → m < f →
    f_X10_carry_L4 f μ 107 (bI1 (crS (sH σ) (sB σ) k)) (nI k) = some (bI1 (crS (sH σ) (sB σ) (2 ^ hM (sH σ))), μ) := by
  have hr := y.2.1
  have hN5 := y.hk.2.2.1
  have hM7 := y.hk.2.2.2.1
  have h2 : 2 ^ hM (sH σ) ≤ 2 ^ 7 := Nat.pow_le_pow_right (by decide) hM7
  intro m
  induction m with
  | zero =>
    intro k f hkm hf
    obtain ⟨f, rfl⟩ := fs1 hf
    show f_X10_carry_L4b _ _ _ _ _ = _
    unfold f_X10_carry_L4b
    rw [y.mh.2.2.2.2.1, shl_p _ (by omega), if_pos (nI_le (by omega) (by omega)), show k = 2 ^ hM (sH σ) by omega]
  | succ m ih =>
    intro k f hkm hf
    obtain ⟨f, rfl⟩ := fs1 hf
    have hk := pc_lt k
    have hc : f_X10_carries μ 107 (nI k) = some (bz (crA (sH σ) (sB σ) k (hN (sH σ))), μ) := mcarries_loop y (show k < 128 by omega) (hN (sH σ)) 0 FU (by omega) (by rw [FU_eq]; omega)
    rw [← ih (k + 1) f (by omega) (by omega)]
    show f_X10_carry_L4b _ _ _ _ _ = f_X10_carry_L4 f μ 107 (bI1 (if (btr (crS (sH σ) (sB σ) k) k && crA (sH σ) (sB σ) k (hN (sH σ))) = true then some k else crS (sH σ) (sB σ) k)) (nI (k + 1))
    have h34 : f_X10_carry_j34 (f_X10_carry_L4 f) μ 107 (bI1 (crS (sH σ) (sB σ) k)) (nI k) (bz (btr (crS (sH σ) (sB σ) k) k)) = f_X10_carry_L4 f μ 107 (bI1 (if (btr (crS (sH σ) (sB σ) k) k && crA (sH σ) (sB σ) k (hN (sH σ))) = true then some k else crS (sH σ) (sB σ) k)) (nI (k + 1)) := by
      unfold f_X10_carry_j34 f_X10_carry_j51 f_X10_carry_j52
      rw [nI_p1]
      by_cases e : btr (crS (sH σ) (sB σ) k) k = true
      · rw [if_neg (bz_t e), hc, bC_s, e, Bool.true_and]
        by_cases a : crA (sH σ) (sB σ) k (hN (sH σ)) = true
        · rw [if_neg (bz_t a), if_pos a]
          rfl
        · rw [if_pos (bz_f (by simpa using a)), if_neg a]
      · rw [if_pos (bz_f (by simpa using e)), show btr (crS (sH σ) (sB σ) k) k = false by simpa using e, Bool.false_and, if_neg (by decide)]
    rw [← h34]
    unfold f_X10_carry_L4b f_X10_carry_j29
    rw [y.mh.2.2.2.2.1, shl_p _ (by omega), if_neg (nI_ge (by omega) (by omega))]
    have hlt := @crS_lt (sH σ) (sB σ) k
    revert hlt
    generalize crS (sH σ) (sB σ) k = B
    intro hlt
    match B with
    | none =>
      rw [if_pos (show bI1 none < 0 from by decide)]
      rfl
    | some j =>
      have hj := hlt rfl
      have hj2 := pc_lt j
      show (if nI j < 0 then _ else bC (f_X10_bits μ (nI k)) (fun r4 μ3 => bC (f_X10_bits μ3 (nI j)) _)) = f_X10_carry_j34 _ μ 107 _ _ (bz (decide (pc k < pc j)))
      rw [if_neg (nI_pos (by omega)), bt_eq μ (by omega), bC_s, bt_eq μ (by omega), bC_s]
      by_cases c : pc k < pc j
      · rw [if_neg (nI_ge c (by omega)), decide_eq_true c]
        rfl
      · rw [if_pos (nI_le (by omega) (by omega)), decide_eq_false c]
        rfl
theorem st_carry : Sp0 Inv f_X9_carry f_X10_carry := by
  intro μ hI
  obtain ⟨σ, P, Q, y⟩ := id hI
  have h2 : 2 ^ hM (sH σ) ≤ 2 ^ 7 := Nat.pow_le_pow_right (by decide) y.hk.2.2.2.1
  exact ⟨_, μ, μ, carry_loop y (2 ^ hM (sH σ)) 0 FU (by omega) (by rw [FU_eq]; omega), mcarry_loop y (2 ^ hM (sH σ)) 0 FU (by omega) (by rw [FU_eq]; omega), hI⟩
