/-! ballots: copied, put, remembered, taken back -/
theorem rt_23 {k : Nat} (P Q : Nat) (hk : k < 20) : RFt P Q 23 k = some (24 + 3 * k) := by
  match k, hk with
  | 0, _ => exact rt_23_0 P Q
  | 1, _ => exact rt_23_1 P Q
  | 2, _ => exact rt_23_2 P Q
  | 3, _ => exact rt_23_3 P Q
  | 4, _ => exact rt_23_4 P Q
  | 5, _ => exact rt_23_5 P Q
  | 6, _ => exact rt_23_6 P Q
  | 7, _ => exact rt_23_7 P Q
  | 8, _ => exact rt_23_8 P Q
  | 9, _ => exact rt_23_9 P Q
  | 10, _ => exact rt_23_10 P Q
  | 11, _ => exact rt_23_11 P Q
  | 12, _ => exact rt_23_12 P Q
  | 13, _ => exact rt_23_13 P Q
  | 14, _ => exact rt_23_14 P Q
  | 15, _ => exact rt_23_15 P Q
  | 16, _ => exact rt_23_16 P Q
  | 17, _ => exact rt_23_17 P Q
  | 18, _ => exact rt_23_18 P Q
  | 19, _ => exact rt_23_19 P Q
  | k + 20, hk => exact absurd hk (by omega)
theorem copy_loop {P Q a c : Nat} (ha : BalA a) (hc : BalA c) (hd : a + 2 < c ∨ c + 2 < a) : ∀ (m k f : Nat) (μ : Mm), k + m = 5 → m < f → μ.2 = RFt P Q →
    ∃ μ', f_X0_copy_L2 f μ a c (nI k) = some μ' ∧ Ag μ μ' (fun b => a ≤ b ∧ b ≤ a + 2) ∧ (∀ i, i < 5 → μ'.1 (a + 1) i = (if k ≤ i then μ.1 (c + 1) i else μ.1 (a + 1) i) ∧ μ'.1 (a + 2) i = (if k ≤ i then μ.1 (c + 2) i else μ.1 (a + 2) i)) ∧ μ'.1 a 2 = μ.1 c 2 ∧ μ'.1 a 3 = μ.1 c 3 := by
  intro m
  induction m with
  | zero =>
    intro k f μ hm hf hr
    obtain ⟨f, rfl⟩ := fs1 hf
    refine ⟨(up2 (up2 μ.1 a 2 (μ.1 c 2)) a 3 (μ.1 c 3), μ.2), ?_, (Ag.up (X := fun b => a ≤ b ∧ b ≤ a + 2) ⟨Nat.le_refl _, by omega⟩).u1 ⟨Nat.le_refl _, by omega⟩, fun i hi => ⟨?_, ?_⟩, ?_, ?_⟩
    · show f_X0_copy_L2b _ _ _ _ _ = _
      unfold f_X0_copy_L2b
      rw [show k = 5 by omega, if_pos (by decide), bM_s, bM_s]
      show some (up2 (up2 μ.1 a 2 (μ.1 c 2)) a 3 (up2 μ.1 a 2 (μ.1 c 2) c 3), μ.2) = _
      rw [up2_na (by omega)]
    · show up2 (up2 μ.1 a 2 _) a 3 _ (a + 1) i = _
      rw [up2_na (by omega), up2_na (by omega), if_neg (by omega)]
    · show up2 (up2 μ.1 a 2 _) a 3 _ (a + 2) i = _
      rw [up2_na (by omega), up2_na (by omega), if_neg (by omega)]
    · show up2 (up2 μ.1 a 2 _) a 3 _ a 2 = _
      rw [up2_nk (by decide), up2_at]
    · show up2 (up2 μ.1 a 2 _) a 3 _ a 3 = _
      rw [up2_at]
  | succ m ih =>
    intro k f μ hm hf hr
    obtain ⟨f, rfl⟩ := fs1 hf
    have g : Ag μ (up2 (up2 μ.1 (a + 1) k (μ.1 (c + 1) k)) (a + 2) k (μ.1 (c + 2) k), μ.2) (fun b => a ≤ b ∧ b ≤ a + 2) := (Ag.up (X := fun b => a ≤ b ∧ b ≤ a + 2) ⟨by omega, by omega⟩).u1 ⟨by omega, by omega⟩
    obtain ⟨μ', e1, e2, e3, e4, e5⟩ := ih (k + 1) f (up2 (up2 μ.1 (a + 1) k (μ.1 (c + 1) k)) (a + 2) k (μ.1 (c + 2) k), μ.2) (by omega) (by omega) hr
    refine ⟨μ', ?_, g.tr e2, fun i hi => ⟨?_, ?_⟩, ?_, ?_⟩
    · show f_X0_copy_L2b _ _ _ _ _ = _
      unfold f_X0_copy_L2b
      have hr1 : ((up2 μ.1 (a + 1) k (μ.1 (c + 1) k), μ.2) : Mm).2 = RFt P Q := hr
      rw [if_neg (show ¬ (5 : Int32) ≤ nI k from nI_ge (b := 5) (by omega) (by omega)), rd hr (ha.1 P Q).1, bR_s, yesOf_eq hr hc (by omega), bC_s, ha.2.1, ckb_n (show k < 5 by omega) (by decide), gd_t, bM_s, nI_clamp (by omega), rd hr1 (ha.1 P Q).2, bR_s, noOf_eq hr1 hc (by omega), bC_s, ha.2.2, ckb_n (show k < 5 by omega) (by decide), gd_t, bM_s, nI_p1]
      refine Eq.trans ?_ e1
      show f_X0_copy_L2 f (up2 (up2 μ.1 (a + 1) k (μ.1 (c + 1) k)) (a + 2) k (up2 μ.1 (a + 1) k (μ.1 (c + 1) k) (c + 2) k), μ.2) a c (nI (k + 1)) = _
      rw [up2_na (by omega)]
    · rw [(e3 i hi).1]
      show (if k + 1 ≤ i then up2 (up2 μ.1 (a + 1) k _) (a + 2) k _ (c + 1) i else up2 (up2 μ.1 (a + 1) k _) (a + 2) k _ (a + 1) i) = _
      rw [up2_na (show c + 1 ≠ a + 2 by omega), up2_na (show c + 1 ≠ a + 1 by omega), up2_na (show a + 1 ≠ a + 2 by omega)]
      by_cases q : i = k
      · rw [if_neg (by omega), if_pos (by omega), q, up2_at]
      · rw [up2_nk q]
        by_cases r : k ≤ i
        · rw [if_pos r, if_pos (by omega)]
        · rw [if_neg r, if_neg (by omega)]
    · rw [(e3 i hi).2]
      show (if k + 1 ≤ i then up2 (up2 μ.1 (a + 1) k _) (a + 2) k _ (c + 2) i else up2 (up2 μ.1 (a + 1) k _) (a + 2) k _ (a + 2) i) = _
      rw [up2_na (show c + 2 ≠ a + 2 by omega), up2_na (show c + 2 ≠ a + 1 by omega)]
      by_cases q : i = k
      · rw [if_neg (by omega), if_pos (by omega), q, up2_at]
      · rw [up2_nk q, up2_na (show a + 2 ≠ a + 1 by omega)]
        by_cases r : k ≤ i
        · rw [if_pos r, if_pos (by omega)]
        · rw [if_neg r, if_neg (by omega)]
    · rw [e4]
      show up2 (up2 μ.1 (a + 1) k _) (a + 2) k _ c 2 = _
      rw [up2_na (by omega), up2_na (by omega)]
    · rw [e5]
      show up2 (up2 μ.1 (a + 1) k _) (a + 2) k _ c 3 = _
      rw [up2_na (by omega), up2_na (by omega)]
theorem copy_eq {P Q a c : Nat} {μ : Mm} (ha : BalA a) (hc : BalA c) (hd : a + 2 < c ∨ c + 2 < a) (hr : μ.2 = RFt P Q) :
    ∃ μ', f_X0_copy μ a c = some μ' ∧ Ag μ μ' (fun b => a ≤ b ∧ b ≤ a + 2) ∧ ∀ h b, CB μ c h b → CB μ' a h b := by
  obtain ⟨μ', e1, e2, e3, e4, e5⟩ := copy_loop ha hc hd 5 0 FU μ (by omega) (by rw [FU_eq]; omega) hr
  refine ⟨μ', e1, e2, fun h b q => ⟨fun i hi => ?_, by rw [e4]; exact q.2.1, by rw [e5]; exact q.2.2⟩⟩
  rw [(e3 i hi).1, (e3 i hi).2, if_pos (Nat.zero_le _), if_pos (Nat.zero_le _)]
  exact q.1 i hi
def clr (m p : Nat) : Nat := if m.testBit p = true then m - 2 ^ p else m
theorem clr_i : ∀ m, m < 128 → ∀ p, p < 7 → nI m &&& (((1 : Int32) <<< (nI p &&& 31)) ^^^ (-1 : Int32)) = nI (clr m p) := by decide +kernel
theorem clr_lt : ∀ m, m < 128 → ∀ p, p < 7 → clr m p < 128 := by decide +kernel
theorem clr_b : ∀ m, m < 128 → ∀ p, p < 7 → ∀ q, q < 7 → (clr m p).testBit q = (m.testBit q && !(decide (q = p))) := by decide +kernel
theorem bits7 {x y : Nat} (hx : x < 128) (hy : y < 128) (h : ∀ q, q < 7 → x.testBit q = y.testBit q) : x = y := by
  apply Nat.eq_of_testBit_eq
  intro q
  by_cases c : q < 7
  · exact h q c
  · have h7 : 2 ^ 7 ≤ 2 ^ q := Nat.pow_le_pow_right (by decide) (by omega)
    rw [Nat.testBit_lt_two_pow (by omega), Nat.testBit_lt_two_pow (by omega)]
def setb (m p : Nat) (t : Bool) : Nat := if t = true then m ||| 2 ^ p else clr m p
theorem setb_lt {m p : Nat} (t : Bool) (hm : m < 128) (hp : p < 7) : setb m p t < 128 := by
  unfold setb
  split
  · exact Nat.or_lt_two_pow (n := 7) hm (Nat.pow_lt_pow_right (by decide) hp)
  · exact clr_lt m hm p hp
theorem setb_b {m p q : Nat} (t : Bool) (hm : m < 128) (hp : p < 7) (hq : q < 7) : (setb m p t).testBit q = if q = p then t else m.testBit q := by
  unfold setb
  cases t
  · rw [if_neg (by decide), clr_b m hm p hp q hq]
    by_cases c : q = p
    · simp [c]
    · simp [c]
  · rw [if_pos rfl, Nat.testBit_or, Nat.testBit_two_pow]
    by_cases c : q = p
    · simp [c]
    · have : ¬ p = q := fun w => c w.symm
      simp [c, this]
theorem bset_set {f g : Nat → Bool} {M p : Nat} (hM : M ≤ 7) (hp : p < M) (h : ∀ q, q ≠ p → g q = f q) : bset g M = setb (bset f M) p (g p) := by
  apply bits7 (bset7 _ hM) (setb_lt _ (bset7 _ hM) (by omega))
  intro q hq
  rw [setb_b _ (bset7 _ hM) (by omega) hq, bset_bit, bset_bit]
  by_cases c : q = p
  · rw [if_pos c, c, decide_eq_true hp, Bool.true_and]
  · rw [if_neg c, h q c]
theorem put_raw {P Q a p i m1 m2 : Nat} {μ : Mm} (x : Int32) (ha : BalA a) (hr : μ.2 = RFt P Q) (hp : p < 7) (hi : i < 5) (h1 : μ.1 (a + 1) i = nI m1) (h2 : μ.1 (a + 2) i = nI m2) (l1 : m1 < 128) (l2 : m2 < 128) :
    ∃ μ', f_X0_put μ a (nI p) (nI i) x = some μ' ∧ Ag μ μ' (fun b => b = a + 1 ∨ b = a + 2) ∧ μ'.1 (a + 1) i = nI (setb m1 p (decide (x = 1))) ∧ μ'.1 (a + 2) i = nI (setb m2 p (decide (x = 0))) ∧ ∀ j, j ≠ i → μ'.1 (a + 1) j = μ.1 (a + 1) j ∧ μ'.1 (a + 2) j = μ.1 (a + 2) j := by
  refine ⟨(up2 (up2 μ.1 (a + 1) i (nI (setb m1 p (decide (x = 1))))) (a + 2) i (nI (setb m2 p (decide (x = 0)))), μ.2), ?_, (Ag.up (X := fun b => b = a + 1 ∨ b = a + 2) (Or.inl rfl)).u1 (Or.inr rfl), ?_, ?_, fun j hj => ⟨?_, ?_⟩⟩
  · have hcb1 : ckb (nI i) (ln (a + 1)) = true := by rw [ha.2.1]; exact ckb_n hi (by decide)
    have hcb2 : ckb (nI i) (ln (a + 2)) = true := by rw [ha.2.2]; exact ckb_n hi (by decide)
    have hj : ∀ v : Int32, f_X0_put_j58 μ a (nI i) x ((1 : Int32) <<< (nI p &&& 31)) v (nI i) (a + 1) = some (up2 (up2 μ.1 (a + 1) i v) (a + 2) i (nI (setb m2 p (decide (x = 0)))), μ.2) := by
      intro v
      have hr1 : ((up2 μ.1 (a + 1) i v, μ.2) : Mm).2 = RFt P Q := hr
      have hv : up2 μ.1 (a + 1) i v (a + 2) i = nI m2 := by rw [up2_na (by omega), h2]
      unfold f_X0_put_j58 f_X0_put_j91
      rw [hcb1, gd_t, bM_s, nI_clamp (by omega), rd hr1 (ha.1 P Q).2, bR_s, bR_s, bR_s, hcb2, gd_t, gd_t, gd_t]
      show (if x = 0 then bM (up2 (up2 μ.1 (a + 1) i v) (a + 2) i (up2 μ.1 (a + 1) i v (a + 2) i ||| ((1 : Int32) <<< (nI p &&& 31))), μ.2) (fun μ2 => some μ2) else bM (up2 (up2 μ.1 (a + 1) i v) (a + 2) i (up2 μ.1 (a + 1) i v (a + 2) i &&& (((1 : Int32) <<< (nI p &&& 31)) ^^^ (-1 : Int32))), μ.2) (fun μ2 => some μ2)) = _
      rw [hv, bM_s, bM_s, clr_i m2 l2 p hp, shl_p p (by omega), nI_or]
      by_cases c : x = 0
      · rw [if_pos c, decide_eq_true c]; rfl
      · rw [if_neg c, decide_eq_false c]; rfl
    unfold f_X0_put
    rw [if_neg (nI_pos (by omega)), if_neg (show ¬ (5 : Int32) ≤ nI i from nI_ge (b := 5) hi (by omega)), if_neg (nI_pos (by omega)), if_pos (show nI p < (7 : Int32) from nI_lt (b := 7) hp (by omega)), bI_s, rd hr (ha.1 P Q).1, bR_s, bR_s, bR_s, hcb1, gd_t, gd_t, nI_clamp (by omega), h1, hj, hj, clr_i m1 l1 p hp, shl_p p (by omega), nI_or]
    by_cases c : x = 1
    · rw [if_pos c, decide_eq_true c]; rfl
    · rw [if_neg c, decide_eq_false c]; rfl
  · show up2 (up2 μ.1 (a + 1) i _) (a + 2) i _ (a + 1) i = _
    rw [up2_na (by omega), up2_at]
  · show up2 (up2 μ.1 (a + 1) i _) (a + 2) i _ (a + 2) i = _
    rw [up2_at]
  · show up2 (up2 μ.1 (a + 1) i _) (a + 2) i _ (a + 1) j = _
    rw [up2_na (by omega), up2_nk hj]
  · show up2 (up2 μ.1 (a + 1) i _) (a + 2) i _ (a + 2) j = _
    rw [up2_nk hj, up2_na (by omega)]
theorem put_eq {P Q a p i v : Nat} {μ : Mm} {h : Hs} {b : Bt} (ha : BalA a) (hr : μ.2 = RFt P Q) (hM7 : hM h ≤ 7) (hb : CB μ a h b) (hp : p < hM h) (hi : i < 5) (hv : v ≤ 2) :
    ∃ μ', f_X0_put μ a (nI p) (nI i) (nI v) = some μ' ∧ Ag μ μ' (fun b => b = a + 1 ∨ b = a + 2) ∧ CB μ' a h (up2 b p i v) := by
  obtain ⟨μ', e1, e2, e3, e4, e5⟩ := put_raw (nI v) ha hr (show p < 7 by omega) hi (hb.1 i hi).1 (hb.1 i hi).2 (bset7 _ hM7) (bset7 _ hM7)
  refine ⟨μ', e1, e2, fun j hj => ?_, ?_, ?_⟩
  · by_cases q : j = i
    · subst q
      rw [e3, e4]
      unfold yS nS
      rw [bset_set (f := fun p => decide (b p j = 1)) (g := fun q => decide (up2 b p j v q j = 1)) hM7 hp (fun q hq => by rw [up2_na hq]), bset_set (f := fun p => decide (b p j = 0)) (g := fun q => decide (up2 b p j v q j = 0)) hM7 hp (fun q hq => by rw [up2_na hq])]
      rw [up2_at]
      have d1 : decide (nI v = 1) = decide (v = 1) := decide_eq_decide.mpr (nI_eq (b := 1) (by omega) (by omega))
      have d0 : decide (nI v = 0) = decide (v = 0) := decide_eq_decide.mpr (nI_eq (b := 0) (by omega) (by omega))
      rw [d1, d0]
      exact ⟨rfl, rfl⟩
    · rw [(e5 j q).1, (e5 j q).2]
      unfold yS nS
      rw [bset_cong (f := fun q => decide (up2 b p i v q j = 1)) (g := fun q => decide (b q j = 1)) (fun k _ => by rw [up2_nk q]), bset_cong (f := fun q => decide (up2 b p i v q j = 0)) (g := fun q => decide (b q j = 0)) (fun k _ => by rw [up2_nk q])]
      exact hb.1 j hj
  · rw [e2.2 a (by omega), up2_na (by omega)]
    exact hb.2.1
  · rw [e2.2 a (by omega), up2_na (by omega)]
    exact hb.2.2
/-! remember -/
def rl (ul : Nat) : Nat := if ul < 20 then ul + 1 else 20
def rU (b : Bt) (ul : Nat) (U : Nat → Bt) (j : Nat) : Bt := if ul < 20 then (if j = ul then b else U j) else (if j = 19 then b else U (j + 1))
theorem rl_le {ul : Nat} (h : ul ≤ 20) : rl ul ≤ 20 := by
  unfold rl
  split <;> omega
theorem rU_ok {h : Hs} {b : Bt} {ul : Nat} {U : Nat → Bt} (hul : ul ≤ 20) (hb : bok h b) (hU : ∀ j, j < ul → bok h (U j)) : ∀ j, j < rl ul → bok h (rU b ul U j) := by
  intro j hj
  unfold rl at hj
  unfold rU
  by_cases q : ul < 20
  · rw [if_pos q] at hj ⊢
    by_cases r : j = ul
    · rw [if_pos r]; exact hb
    · rw [if_neg r]; exact hU j (by omega)
  · rw [if_neg q] at hj ⊢
    by_cases r : j = 19
    · rw [if_pos r]; exact hb
    · rw [if_neg r]; exact hU (j + 1) (by omega)
theorem rowAt_eq {P Q k : Nat} {μ : Mm} (hr : μ.2 = RFt P Q) (hk : k < 20) : f_X3_rowAt μ 22 (nI k) = some (some (24 + 3 * k), μ) := by
  unfold f_X3_rowAt
  rw [if_neg (nI_pos (by omega)), rd hr (rt_22_0 P Q), bR_s, bR_s, if_neg (show ¬ Int32.ofNat (ln 23) ≤ nI k from nI_ge (show k < 20 from hk) (by decide)), ckb_n (show k < ln 23 from hk) (by decide), gd_t, nI_clamp (by omega), rd hr (rt_23 P Q hk), bR_s]
theorem rem20 {a : Nat} (ha : a < 2 ^ 31) : nI a - nI a / (20 : Int32) * (20 : Int32) = nI (a % 20) := pk_rem (d := 20) ha (by omega) (by omega)
theorem rl_i {ul : Nat} (h : ul ≤ 20) : (if (20 : Int32) < nI (ul + 1) then (20 : Int32) else nI (ul + 1)) = nI (rl ul) := by
  unfold rl
  by_cases q : ul < 20
  · rw [if_pos q, if_neg (show ¬ (20 : Int32) < nI (ul + 1) from nI_nlt (a := 20) (by omega) (by omega))]
  · rw [if_neg q, if_pos (show (20 : Int32) < nI (ul + 1) from nI_lt (a := 20) (by omega) (by omega))]
    rfl
theorem rem_c {P Q : Nat} {μ : Mm} {h : Hs} {b : Bt} {U M : Nat → Bt} {N : Nat → Nat → Nat} (c : CA P μ h b U M N) (hP : P = 3 ∨ P = 11) (hr : μ.2 = RFt P Q) (hul : N 0 0 ≤ 20) (hnx : N 0 5 < 20) :
    ∃ μ', f_X3_remember μ 22 19 = some μ' ∧ Ag μ μ' (fun a => 22 ≤ a ∧ a ≤ 83) ∧ CA P μ' h b (rU b (N 0 0) U) M (up2 (up2 N 0 0 (rl (N 0 0))) 0 5 ((N 0 5 + 1) % 20)) := by
  obtain ⟨p1, p2, p3⟩ := c.2.2.1
  obtain ⟨μ1, e1, e2, e3⟩ := copy_eq (a := 24 + 3 * N 0 5) (c := 19) (bal_u hnx) bal_19 (Or.inr (by omega)) hr
  have hr1 := e2.1.trans hr
  have hcb := e3 h b c.2.1
  have f22 : μ1.1 22 = μ.1 22 := e2.2 22 (by omega)
  have g2 : Ag μ1 (up2 (up2 μ1.1 22 2 (nI ((N 0 5 + 1) % 20))) 22 1 (nI (rl (N 0 0))), μ1.2) (fun a => 22 ≤ a ∧ a ≤ 83) := (Ag.up (X := fun a => 22 ≤ a ∧ a ≤ 83) ⟨by omega, by omega⟩).u1 ⟨by omega, by omega⟩
  have g : Ag μ (up2 (up2 μ1.1 22 2 (nI ((N 0 5 + 1) % 20))) 22 1 (nI (rl (N 0 0))), μ1.2) (fun a => 22 ≤ a ∧ a ≤ 83) := (e2.wk (fun a q => by omega)).tr g2
  refine ⟨(up2 (up2 μ1.1 22 2 (nI ((N 0 5 + 1) % 20))) 22 1 (nI (rl (N 0 0))), μ1.2), ?_, g, c.un hP (fun a _ q => g.2 a q) ⟨rfl, ?_, fun j hj => ?_⟩⟩
  · unfold f_X3_remember
    rw [p2, rowAt_eq hr hnx, bC_s, bN_s, e1, bV_s, f22, p2, nI_p1, rem20 (by omega), bM_s]
    show bM (up2 (up2 μ1.1 22 2 (nI ((N 0 5 + 1) % 20))) 22 1 (if (20 : Int32) < μ1.1 22 1 + 1 then 20 else μ1.1 22 1 + 1), μ1.2) _ = _
    rw [f22, p1, nI_p1, rl_i hul, bM_s]
  · exact rfl
  · have hrg := ring_lt ((N 0 5 + 1) % 20) (rl (N 0 0)) j
    have cgv : ∀ {h b}, CB μ1 (24 + 3 * ring ((N 0 5 + 1) % 20) (rl (N 0 0)) j) h b → CB (up2 (up2 μ1.1 22 2 (nI ((N 0 5 + 1) % 20))) 22 1 (nI (rl (N 0 0))), μ1.2) (24 + 3 * ring ((N 0 5 + 1) % 20) (rl (N 0 0)) j) h b := fun q => q.cg ((up2_ne (by omega)).trans (up2_ne (by omega))) ((up2_ne (by omega)).trans (up2_ne (by omega))) ((up2_ne (by omega)).trans (up2_ne (by omega)))
    apply cgv
    unfold rl at hj
    unfold rU
    by_cases q : N 0 0 < 20
    · rw [if_pos q] at hj ⊢
      have er : rl (N 0 0) = N 0 0 + 1 := if_pos q
      rw [er] at hrg ⊢
      by_cases r : j = N 0 0
      · rw [if_pos r, show ring ((N 0 5 + 1) % 20) (N 0 0 + 1) j = N 0 5 by unfold ring; omega]
        exact hcb
      · rw [if_neg r, show ring ((N 0 5 + 1) % 20) (N 0 0 + 1) j = ring (N 0 5) (N 0 0) j by unfold ring; omega]
        have hne : ring (N 0 5) (N 0 0) j ≠ N 0 5 := by unfold ring; omega
        exact (p3 j (by omega)).cg (e2.2 _ (by omega)) (e2.2 _ (by omega)) (e2.2 _ (by omega))
    · rw [if_neg q] at hj ⊢
      have er : rl (N 0 0) = 20 := if_neg q
      rw [er] at hrg ⊢
      by_cases r : j = 19
      · rw [if_pos r, show ring ((N 0 5 + 1) % 20) 20 j = N 0 5 by unfold ring; omega]
        exact hcb
      · rw [if_neg r, show ring ((N 0 5 + 1) % 20) 20 j = ring (N 0 5) (N 0 0) (j + 1) by unfold ring; omega]
        have hne : ring (N 0 5) (N 0 0) (j + 1) ≠ N 0 5 := by unfold ring; omega
        exact (p3 (j + 1) (by omega)).cg (e2.2 _ (by omega)) (e2.2 _ (by omega)) (e2.2 _ (by omega))
theorem MB.mv {μ μ' : Mm} {a o a2 o2 : Nat} {h : Hs} {b : Bt} (hb : MB μ a2 o2 h b) (hm : hM h ≤ 7) (e : ∀ t, t < 37 → μ'.1 a (o + t) = μ.1 a2 (o2 + t)) : MB μ' a o h b :=
  ⟨fun p hp i hi => by rw [e (5 * p + i) (by omega)]; exact hb.1 p hp i hi, by rw [e 35 (by omega)]; exact hb.2.1, by rw [e 36 (by omega)]; exact hb.2.2⟩
theorem nI_37 (a b : Nat) : (37 : Int32) * nI a + nI b = nI (37 * a + b) := by
  show nI 37 * nI a + nI b = _
  rw [pk_mul, nI_add]
theorem nI_38 (a b : Nat) : (38 : Int32) * nI a + nI b = nI (38 * a + b) := by
  show nI 38 * nI a + nI b = _
  rw [pk_mul, nI_add]
theorem rcp_loop {P Q ul : Nat} (hul : ul < 20) : ∀ (m k f : Nat) (μ : Mm), k + m = 37 → m < f → μ.2 = RFt P Q → μ.1 107 27 = nI ul →
    ∃ μ', f_X10_remember_L52 f μ 107 (nI k) = some μ' ∧ Ag μ μ' (fun a => a = 107 ∨ a = 122) ∧ (∀ k', k' ≠ 27 → μ'.1 107 k' = μ.1 107 k') ∧ μ'.1 107 27 = nI (ul + 1) ∧ ∀ j, μ'.1 122 j = if 37 * ul + k ≤ j ∧ j < 37 * ul + 37 then μ.1 112 (j - 37 * ul) else μ.1 122 j := by
  intro m
  induction m with
  | zero =>
    intro k f μ hm hf hr h27
    obtain ⟨f, rfl⟩ := fs1 hf
    refine ⟨(up2 μ.1 107 27 (nI (ul + 1)), μ.2), ?_, Ag.up (Or.inl rfl), fun k' hk => up2_nk hk, rfl, fun j => ?_⟩
    · show f_X10_remember_L52b _ _ _ _ = _
      unfold f_X10_remember_L52b
      rw [show k = 37 by omega, if_pos (by decide), bM_s, h27, nI_p1]
    · show μ.1 122 j = _
      rw [if_neg (by omega)]
  | succ m ih =>
    intro k f μ hm hf hr h27
    obtain ⟨f, rfl⟩ := fs1 hf
    have g : Ag μ (up2 μ.1 122 (37 * ul + k) (μ.1 112 k), μ.2) (fun a => a = 107 ∨ a = 122) := Ag.up (Or.inr rfl)
    obtain ⟨μ', e1, e2, e3, e4, e5⟩ := ih (k + 1) f (up2 μ.1 122 (37 * ul + k) (μ.1 112 k), μ.2) (by omega) (by omega) hr h27
    refine ⟨μ', ?_, g.tr e2, fun k' hk => e3 k' hk, e4, fun j => ?_⟩
    · show f_X10_remember_L52b _ _ _ _ = _
      unfold f_X10_remember_L52b
      rw [if_neg (show ¬ (37 : Int32) ≤ nI k from nI_ge (b := 37) (by omega) (by omega)), rd hr (rt_107_28 P Q), bR_s, rd hr (rt_107_8 P Q), bR_s, ckb_n (show k < ln 112 by show k < 37; omega) (by decide), gd_t, h27, nI_37, ckb_n (show 37 * ul + k < ln 122 by show _ < 740; omega) (by decide), gd_t, bM_s, nI_clamp (by omega), nI_clamp (by omega), nI_p1]
      exact e1
    · rw [e5 j]
      show (if 37 * ul + (k + 1) ≤ j ∧ j < 37 * ul + 37 then up2 μ.1 122 (37 * ul + k) (μ.1 112 k) 112 (j - 37 * ul) else up2 μ.1 122 (37 * ul + k) (μ.1 112 k) 122 j) = _
      rw [up2_na (show (112 : Nat) ≠ 122 by decide)]
      by_cases q : j = 37 * ul + k
      · rw [if_neg (by omega), if_pos (by omega), q, up2_at, show 37 * ul + k - 37 * ul = k by omega]
      · rw [up2_nk q]
        by_cases r : 37 * ul + k ≤ j ∧ j < 37 * ul + 37
        · rw [if_pos r, if_pos (by omega)]
        · rw [if_neg r, if_neg (by omega)]
theorem shf_loop {P Q : Nat} : ∀ (m k f : Nat) (μ : Mm), k + m = 740 → m < f → 37 ≤ k → μ.2 = RFt P Q →
    ∃ μ', f_X10_remember_L12 f μ 107 (nI k) = bM (up2 μ'.1 107 27 (μ'.1 107 27 - (1 : Int32)), μ'.2) (fun μ2 => f_X10_remember_j50 μ2 107) ∧ Ag μ μ' (fun a => a = 122) ∧ ∀ j, j < 703 → μ'.1 122 j = if k - 37 ≤ j then μ.1 122 (j + 37) else μ.1 122 j := by
  intro m
  induction m with
  | zero =>
    intro k f μ hm hf h37 hr
    obtain ⟨f, rfl⟩ := fs1 hf
    refine ⟨μ, ?_, Ag.rf, fun j hj => ?_⟩
    · show f_X10_remember_L12b _ _ _ _ = _
      unfold f_X10_remember_L12b
      rw [show k = 740 by omega, if_pos (by decide)]
    · rw [if_neg (by omega)]
  | succ m ih =>
    intro k f μ hm hf h37 hr
    obtain ⟨f, rfl⟩ := fs1 hf
    have g : Ag μ (up2 μ.1 122 (k - 37) (μ.1 122 k), μ.2) (fun a => a = 122) := Ag.up rfl
    obtain ⟨μ', e1, e2, e3⟩ := ih (k + 1) f (up2 μ.1 122 (k - 37) (μ.1 122 k), μ.2) (by omega) (by omega) (by omega) hr
    refine ⟨μ', ?_, g.tr e2, fun j hj => ?_⟩
    · show f_X10_remember_L12b _ _ _ _ = _
      unfold f_X10_remember_L12b
      rw [if_neg (show ¬ (740 : Int32) ≤ nI k from nI_ge (b := 740) (by omega) (by omega)), rd hr (rt_107_28 P Q), bR_s, bR_s, ckb_n (show k < ln 122 by show k < 740; omega) (by decide), gd_t, show nI k - (37 : Int32) = nI (k - 37) from pk_sub (b := 37) h37, ckb_n (show k - 37 < ln 122 by show _ < 740; omega) (by decide), gd_t, bM_s, nI_clamp (by omega), nI_clamp (by omega), nI_p1]
      exact e1
    · rw [e3 j hj]
      show (if k + 1 - 37 ≤ j then up2 μ.1 122 (k - 37) (μ.1 122 k) 122 (j + 37) else up2 μ.1 122 (k - 37) (μ.1 122 k) 122 j) = _
      by_cases q : j = k - 37
      · rw [if_neg (by omega), if_pos (by omega), q, up2_at, show k - 37 + 37 = k by omega]
      · rw [up2_nk q]
        by_cases r : k - 37 ≤ j
        · rw [if_pos r, if_pos (by omega), up2_nk (by omega)]
        · rw [if_neg r, if_neg (by omega)]
theorem rem_m {P Q nx : Nat} {μ : Mm} {h : Hs} {b : Bt} {U M : Nat → Bt} {N : Nat → Nat → Nat} (m : MA μ h b U M N) (hm7 : hM h ≤ 7) (hr : μ.2 = RFt P Q) (hul : N 0 0 ≤ 20) :
    ∃ μ', f_X10_remember μ 107 = some μ' ∧ Ag μ μ' (fun a => a = 107 ∨ a = 122) ∧ (∀ k', k' ≠ 27 → μ'.1 107 k' = μ.1 107 k') ∧ MA μ' h b (rU b (N 0 0) U) M (up2 (up2 N 0 0 (rl (N 0 0))) 0 5 nx) := by
  obtain ⟨p1, p2⟩ := m.2.2.1
  by_cases q : N 0 0 < 20
  · obtain ⟨μ1, e1, e2, e3, e4, e5⟩ := rcp_loop q 37 0 FU μ (by omega) (by rw [FU_eq]; omega) hr p1
    refine ⟨μ1, ?_, e2, e3, m.un (fun a h1 h2 => e2.2 a (by omega)) (fun k hk => e3 k hk) ⟨?_, fun j hj => ?_⟩⟩
    · unfold f_X10_remember
      rw [p1, if_neg (show ¬ nI (N 0 0) = (20 : Int32) from nI_ne (b := 20) (by omega) (by omega) (by omega))]
      exact e1
    · rw [e4, show rl (N 0 0) = N 0 0 + 1 from if_pos q]
    · rw [show rl (N 0 0) = N 0 0 + 1 from if_pos q] at hj
      unfold rU
      rw [if_pos q]
      by_cases r : j = N 0 0
      · rw [if_pos r]
        refine m.2.1.mv hm7 (fun t ht => ?_)
        rw [e5, r, if_pos (by omega), show 37 * N 0 0 + t - 37 * N 0 0 = 0 + t by omega]
      · rw [if_neg r]
        refine (p2 j (by omega)).mv hm7 (fun t ht => ?_)
        rw [e5, if_neg (by omega)]
  · have q20 : N 0 0 = 20 := by omega
    obtain ⟨μ0, d1, d2, d3⟩ := shf_loop 703 37 FU μ (by omega) (by rw [FU_eq]; omega) (Nat.le_refl _) hr
    have h0 : μ0.1 107 27 - 1 = nI 19 := by rw [d2.2 107 (by decide), p1, q20]; rfl
    have g0 : Ag μ0 (up2 μ0.1 107 27 (nI 19), μ0.2) (fun a => a = 107 ∨ a = 122) := Ag.up (Or.inl rfl)
    obtain ⟨μ1, e1, e2, e3, e4, e5⟩ := rcp_loop (show 19 < 20 by decide) 37 0 FU (up2 μ0.1 107 27 (nI 19), μ0.2) (by omega) (by rw [FU_eq]; omega) (d2.1.trans hr) rfl
    have gA : Ag μ μ1 (fun a => a = 107 ∨ a = 122) := ((d2.wk (fun a q => Or.inr q)).tr g0).tr e2
    have g7 : ∀ k', k' ≠ 27 → μ1.1 107 k' = μ.1 107 k' := fun k' hk => ((e3 k' hk).trans (up2_nk hk)).trans (by rw [d2.2 107 (by decide)])
    have h122 : ∀ j, ((up2 μ0.1 107 27 (nI 19), μ0.2) : Mm).1 122 j = μ0.1 122 j := fun j => rfl
    refine ⟨μ1, ?_, gA, g7, m.un (fun a h1 h2 => gA.2 a (by omega)) (fun k hk => g7 k hk) ⟨?_, fun j hj => ?_⟩⟩
    · unfold f_X10_remember
      rw [p1, if_pos (by rw [q20]; rfl)]
      refine d1.trans ?_
      rw [h0, bM_s]
      exact e1
    · rw [e4, show rl (N 0 0) = 20 from if_neg q]
    · rw [show rl (N 0 0) = 20 from if_neg q] at hj
      unfold rU
      rw [if_neg q]
      by_cases r : j = 19
      · rw [if_pos r]
        refine m.2.1.mv hm7 (fun t ht => ?_)
        rw [e5, r, if_pos (by omega), show 37 * 19 + t - 37 * 19 = 0 + t by omega]
        show μ0.1 112 _ = _
        rw [d2.2 112 (by decide)]
      · rw [if_neg r]
        refine (p2 (j + 1) (by omega)).mv hm7 (fun t ht => ?_)
        rw [e5, if_neg (by omega), h122, d3 _ (by omega), if_pos (by omega), show 37 * j + t + 37 = 37 * (j + 1) + t by omega]
