/-! the abstract state: a house, ballots -/
abbrev Hs : Type := Nat → Nat → Nat
abbrev Bt : Type := Nat → Nat → Nat
def hC (h : Hs) : Nat := h 0 0
def hR (h : Hs) : Nat := h 0 1
def hN (h : Hs) : Nat := h 0 2
def hM (h : Hs) : Nat := h 0 3
def hZ (h : Hs) : Nat := hC h * hR h
def hok (h : Hs) : Prop := hC h ≤ 5 ∧ hR h ≤ 4 ∧ hN h ≤ 5 ∧ hM h ≤ 7 ∧ (hC h = 0 → hR h = 0 ∧ hN h = 0 ∧ hM h = 0) ∧ (0 < hC h → 0 < hR h) ∧ (∀ c, h 1 c ≤ 9) ∧
  ∀ i, i < hN h → h 2 i < hZ h ∧ h 3 i < hZ h ∧ h 2 i / hC h ≤ h 3 i / hC h ∧ h 2 i % hC h ≤ h 3 i % hC h ∧ h 4 i ≤ 9
theorem hok.z {h : Hs} (k : hok h) : hZ h ≤ 20 := by
  obtain ⟨h1, h2, -⟩ := k
  unfold hZ
  exact Nat.le_trans (Nat.mul_le_mul h1 h2) (by decide)
def bok (h : Hs) (b : Bt) : Prop := (∀ p, p < hM h → ∀ i, i < 5 → b p i ≤ 2) ∧ b 7 0 ≤ 9100 ∧ b 7 1 ≤ 30000
def yS (h : Hs) (b : Bt) (i : Nat) : Nat := bset (fun p => decide (b p i = 1)) (hM h)
def nS (h : Hs) (b : Bt) (i : Nat) : Nat := bset (fun p => decide (b p i = 0)) (hM h)
/-- the class's ballot at the cell a -/
def CB (μ : Mm) (a : Nat) (h : Hs) (b : Bt) : Prop := (∀ i, i < 5 → μ.1 (a + 1) i = nI (yS h b i) ∧ μ.1 (a + 2) i = nI (nS h b i)) ∧ μ.1 a 2 = nI (b 7 0) ∧ μ.1 a 3 = nI (b 7 1) - 1
/-- the reference's ballot in the row a from the place o on -/
def MB (μ : Mm) (a o : Nat) (h : Hs) (b : Bt) : Prop := (∀ p, p < hM h → ∀ i, i < 5 → μ.1 a (o + (5 * p + i)) = nI (b p i)) ∧ μ.1 a (o + 35) = nI (b 7 0) ∧ μ.1 a (o + 36) = nI (b 7 1) - 1
def isOf (h : Hs) (i c : Nat) : Bool := decide (h 2 i / hC h ≤ c / hC h ∧ c / hC h ≤ h 3 i / hC h ∧ h 2 i % hC h ≤ c % hC h ∧ c % hC h ≤ h 3 i % hC h)
def oS (h : Hs) (i : Nat) : Nat := bset (fun c => isOf h i c) (hZ h)
/-- the class's house at the cell P -/
def CH (μ : Mm) (P : Nat) (h : Hs) : Prop := μ.1 P 0 = nI (hC h) ∧ μ.1 P 1 = nI (hR h) ∧ μ.1 P 2 = nI (hZ h) ∧ μ.1 P 3 = nI (hN h) ∧ μ.1 P 4 = nI (hM h) ∧
  (∃ t, t ≤ 20 ∧ μ.1 P 5 = nI t ∧ ∀ c, c < 20 → (t = 0 → h 1 c = 0) ∧ (0 < t → μ.1 (P + 1) (c % t) = nI (h 1 c))) ∧
  ∀ i, i < hN h → μ.1 (P + 2) i = nI (oS h i) ∧ μ.1 (P + 3) i = nI (h 4 i) ∧ μ.1 (P + 4) i = nI (h 2 i % hC h)
/-- the reference's house -/
def MH (μ : Mm) (h : Hs) : Prop := μ.1 107 0 = nI (hC h) ∧ μ.1 107 1 = nI (hR h) ∧ (∀ c, c < 20 → μ.1 108 c = nI (h 1 c)) ∧ μ.1 107 3 = nI (hN h) ∧ μ.1 107 7 = nI (hM h) ∧
  ∀ i, i < hN h → μ.1 109 i = nI (h 2 i) ∧ μ.1 110 i = nI (h 3 i) ∧ μ.1 111 i = nI (h 4 i)
def BalA (a : Nat) : Prop := (∀ P Q, RFt P Q a 0 = some (a + 1) ∧ RFt P Q a 1 = some (a + 2)) ∧ ln (a + 1) = 5 ∧ ln (a + 2) = 5
theorem bal_19 : BalA 19 := ⟨fun P Q => ⟨rt_19_0 P Q, rt_19_1 P Q⟩, rfl, rfl⟩
theorem bal_100 : BalA 100 := ⟨fun P Q => ⟨rt_100_0 P Q, rt_100_1 P Q⟩, rfl, rfl⟩
theorem bal_104 : BalA 104 := ⟨fun P Q => ⟨rt_104_0 P Q, rt_104_1 P Q⟩, rfl, rfl⟩
theorem bal_8 : BalA 8 := ⟨fun P Q => ⟨rt_8_0 P Q, rt_8_1 P Q⟩, rfl, rfl⟩
theorem bal_16 : BalA 16 := ⟨fun P Q => ⟨rt_16_0 P Q, rt_16_1 P Q⟩, rfl, rfl⟩
theorem bal_h {P : Nat} (hP : P = 3 ∨ P = 11) : BalA (P + 5) := by
  rcases hP with rfl | rfl
  · exact bal_8
  · exact bal_16
set_option maxRecDepth 100000 in
theorem bal_u {k : Nat} (hk : k < 20) : BalA (24 + 3 * k) := by
  match k, hk with
  | 0, _ => exact ⟨fun P Q => ⟨rt_24_0 P Q, rt_24_1 P Q⟩, rfl, rfl⟩
  | 1, _ => exact ⟨fun P Q => ⟨rt_27_0 P Q, rt_27_1 P Q⟩, rfl, rfl⟩
  | 2, _ => exact ⟨fun P Q => ⟨rt_30_0 P Q, rt_30_1 P Q⟩, rfl, rfl⟩
  | 3, _ => exact ⟨fun P Q => ⟨rt_33_0 P Q, rt_33_1 P Q⟩, rfl, rfl⟩
  | 4, _ => exact ⟨fun P Q => ⟨rt_36_0 P Q, rt_36_1 P Q⟩, rfl, rfl⟩
  | 5, _ => exact ⟨fun P Q => ⟨rt_39_0 P Q, rt_39_1 P Q⟩, rfl, rfl⟩
  | 6, _ => exact ⟨fun P Q => ⟨rt_42_0 P Q, rt_42_1 P Q⟩, rfl, rfl⟩
  | 7, _ => exact ⟨fun P Q => ⟨rt_45_0 P Q, rt_45_1 P Q⟩, rfl, rfl⟩
  | 8, _ => exact ⟨fun P Q => ⟨rt_48_0 P Q, rt_48_1 P Q⟩, rfl, rfl⟩
  | 9, _ => exact ⟨fun P Q => ⟨rt_51_0 P Q, rt_51_1 P Q⟩, rfl, rfl⟩
  | 10, _ => exact ⟨fun P Q => ⟨rt_54_0 P Q, rt_54_1 P Q⟩, rfl, rfl⟩
  | 11, _ => exact ⟨fun P Q => ⟨rt_57_0 P Q, rt_57_1 P Q⟩, rfl, rfl⟩
  | 12, _ => exact ⟨fun P Q => ⟨rt_60_0 P Q, rt_60_1 P Q⟩, rfl, rfl⟩
  | 13, _ => exact ⟨fun P Q => ⟨rt_63_0 P Q, rt_63_1 P Q⟩, rfl, rfl⟩
  | 14, _ => exact ⟨fun P Q => ⟨rt_66_0 P Q, rt_66_1 P Q⟩, rfl, rfl⟩
  | 15, _ => exact ⟨fun P Q => ⟨rt_69_0 P Q, rt_69_1 P Q⟩, rfl, rfl⟩
  | 16, _ => exact ⟨fun P Q => ⟨rt_72_0 P Q, rt_72_1 P Q⟩, rfl, rfl⟩
  | 17, _ => exact ⟨fun P Q => ⟨rt_75_0 P Q, rt_75_1 P Q⟩, rfl, rfl⟩
  | 18, _ => exact ⟨fun P Q => ⟨rt_78_0 P Q, rt_78_1 P Q⟩, rfl, rfl⟩
  | 19, _ => exact ⟨fun P Q => ⟨rt_81_0 P Q, rt_81_1 P Q⟩, rfl, rfl⟩
  | k + 20, hk => exact absurd hk (by omega)
/-! a ballot's answers -/
theorem nI_nlt0 {i : Nat} (h : i < 2 ^ 31) : ¬ nI i < 0 := nI_pos h
theorem yesOf_eq {μ : Mm} {P Q a i : Nat} (hr : μ.2 = RFt P Q) (ha : BalA a) (hi : i < 5) : f_X0_yesOf μ a (nI i) = some (μ.1 (a + 1) i, μ) := by
  unfold f_X0_yesOf
  rw [if_neg (nI_pos (by omega)), hr, (ha.1 P Q).1, bR_s, bR_s, ha.2.1, if_neg (show ¬ Int32.ofNat 5 ≤ nI i from nI_ge hi (by omega)), ckb_n hi (by omega), gd_t, nI_clamp (by omega)]
theorem noOf_eq {μ : Mm} {P Q a i : Nat} (hr : μ.2 = RFt P Q) (ha : BalA a) (hi : i < 5) : f_X0_noOf μ a (nI i) = some (μ.1 (a + 2) i, μ) := by
  unfold f_X0_noOf
  rw [if_neg (nI_pos (by omega)), hr, (ha.1 P Q).2, bR_s, bR_s, ha.2.2, if_neg (show ¬ Int32.ofNat 5 ≤ nI i from nI_ge hi (by omega)), ckb_n hi (by omega), gd_t, nI_clamp (by omega)]
theorem bset7 (f : Nat → Bool) {n : Nat} (hn : n ≤ 7) : bset f n < 128 := Nat.lt_of_lt_of_le (bset_lt f n) (Nat.pow_le_pow_right (by decide) hn)
def st3 (y n : Nat) : Nat := if y ≤ n then 0 else if y = n + 1 then 1 else 2
def stand (h : Hs) (b : Bt) (i : Nat) : Nat := st3 (cn (fun p => decide (b p i = 1)) (hM h)) (cn (fun p => decide (b p i = 0)) (hM h))
theorem st3_le (y n : Nat) : st3 y n ≤ 2 := by
  unfold st3
  split
  · omega
  · split <;> omega
theorem stand_le (h : Hs) (b : Bt) (i : Nat) : stand h b i ≤ 2 := st3_le _ _
theorem sb_all : ∀ y, y < 8 → ∀ n, n < 8 → (if 0 < nI y - nI n then (if nI y - nI n = (1 : Int32) then (1 : Int32) else 2) else 0) = nI (st3 y n) := by decide +kernel
theorem sm_all : ∀ y, y < 8 → ∀ n, n < 8 → (if (1 : Int32) ≤ nI y - nI n then (if nI y - nI n = (1 : Int32) then (1 : Int32) else 2) else 0) = nI (st3 y n) := by decide +kernel
theorem ite_some {α : Type} {c : Prop} [Decidable c] (a b : α) : (if c then some a else some b) = some (if c then a else b) := by split <;> rfl
theorem standBy_eq (μ : Mm) {y n : Nat} (hy : y < 8) (hn : n < 8) : f_X9_standBy μ (nI y - nI n) = some (nI (st3 y n), μ) := by
  unfold f_X9_standBy
  rw [← sb_all y hy n hn]
  split
  · split <;> rfl
  · rfl
theorem standsBy_eq (μ : Mm) {y n : Nat} (hy : y < 8) (hn : n < 8) : f_X10_standsBy μ (nI y - nI n) = some (nI (st3 y n), μ) := by
  unfold f_X10_standsBy
  rw [← sm_all y hy n hn]
  split
  · split <;> rfl
  · rfl
theorem leadOf_eq {μ : Mm} {P Q a i : Nat} {h : Hs} {b : Bt} (hr : μ.2 = RFt P Q) (ha : BalA a) (hm : hM h ≤ 7) (hb : CB μ a h b) (hi : i < 5) : f_X0_leadOf μ a (nI i) = some (nI (cn (fun p => decide (b p i = 1)) (hM h)) - nI (cn (fun p => decide (b p i = 0)) (hM h)), μ) := by
  unfold f_X0_leadOf
  rw [yesOf_eq hr ha hi, bC_s, (hb.1 i hi).1, yS, bc_eq μ (bset7 _ hm), bC_s, noOf_eq hr ha hi, bC_s, (hb.1 i hi).2, nS, bc_eq μ (bset7 _ hm), bC_s, pc_bset _ hm, pc_bset _ hm]
theorem cn8 (p : Nat → Bool) {n : Nat} (hn : n ≤ 7) : cn p n < 8 := Nat.lt_of_le_of_lt (cn_le p n) (by omega)
theorem standOf_eq {μ : Mm} {P Q a i : Nat} {h : Hs} {b : Bt} (hr : μ.2 = RFt P Q) (ha : BalA a) (hm : hM h ≤ 7) (hb : CB μ a h b) (hi : i < 5) : f_X0_standOf μ a (nI i) = some (nI (stand h b i), μ) := by
  unfold f_X0_standOf
  rw [leadOf_eq hr ha hm hb hi, bC_s, standBy_eq μ (cn8 _ hm) (cn8 _ hm), bC_s]
  rfl
theorem howOf_eq {μ : Mm} {P Q a i p : Nat} {h : Hs} {b : Bt} (hr : μ.2 = RFt P Q) (ha : BalA a) (hm : hM h ≤ 7) (hb : CB μ a h b) (hk : bok h b) (hi : i < 5) (hp : p < hM h) : f_X0_howOf μ a (nI p) (nI i) = some (nI (b p i), μ) := by
  unfold f_X0_howOf
  have h2 := hk.1 p hp i hi
  rw [yesOf_eq hr ha hi, bC_s, (hb.1 i hi).1, yS, bit_01 (Nat.lt_of_lt_of_le (bset7 _ hm) (by decide)) (by omega), bset_bit]
  by_cases c1 : b p i = 1
  · rw [if_neg (by simp [bz_e, hp, c1]), c1]
    rfl
  · rw [if_pos (by simp [bz_e, hp, c1]), noOf_eq hr ha hi, bC_s, (hb.1 i hi).2, nS, bit_01 (Nat.lt_of_lt_of_le (bset7 _ hm) (by decide)) (by omega), bset_bit]
    by_cases c0 : b p i = 0
    · rw [if_neg (by simp [bz_e, hp, c0]), c0]
      rfl
    · have c2 : b p i = 2 := by omega
      rw [if_pos (by simp [bz_e, hp, c0]), c2]
      rfl
/-! the reference's -/
theorem FU_eq : FU = 1000 := rfl
theorem nI_5 {p i : Nat} : (5 : Int32) * nI p + nI i = nI (5 * p + i) := by
  show nI 5 * nI p + nI i = _
  rw [pk_mul, nI_add]
theorem nI_p1 (k : Nat) : nI k + (1 : Int32) = nI (k + 1) := nI_1 k
theorem voters_loop {μ : Mm} {P Q i v : Nat} {h : Hs} {b : Bt} (hr : μ.2 = RFt P Q) (hm : hM h ≤ 7) (hp : μ.1 107 7 = nI (hM h)) (hb : MB μ 112 0 h b) (hk : bok h b) (hi : i < 5) (hv : v ≤ 2) :
    ∀ (m k f : Nat), k + m = hM h → m < f → f_X10_voters_L5 f μ 107 (nI i) (nI v) (nI (bset (fun p => decide (b p i = v)) k)) (nI k) = some (nI (bset (fun p => decide (b p i = v)) (hM h)), μ) := by
  intro m
  induction m with
  | zero =>
    intro k f hkm hf
    obtain ⟨f, rfl⟩ : ∃ g, f = g + 1 := ⟨f - 1, by omega⟩
    show f_X10_voters_L5b _ _ _ _ _ _ _ = _
    unfold f_X10_voters_L5b
    rw [hp, if_pos (nI_le (by omega) (by omega)), show k = hM h by omega]
  | succ m ih =>
    intro k f hkm hf
    obtain ⟨f, rfl⟩ : ∃ g, f = g + 1 := ⟨f - 1, by omega⟩
    show f_X10_voters_L5b _ _ _ _ _ _ _ = _
    unfold f_X10_voters_L5b
    have e := hb.1 k (by omega) i hi
    rw [Nat.zero_add] at e
    rw [hp, if_neg (nI_ge (by omega) (by omega)), hr, rt_107_8, bR_s, nI_5, ckb_n (show 5 * k + i < ln 112 by show _ < 37; omega) (by decide), gd_t, nI_clamp (by omega), e]
    have h2 := hk.1 k (by omega) i hi
    have hs := bset_nI (fun p => decide (b p i = v)) (show k < 31 by omega)
    by_cases c : b k i = v
    · rw [if_pos (by rw [c])]
      unfold f_X10_voters_j38
      simp only [c, decide_true, if_true] at hs
      rw [bI_s, hs, nI_p1]
      exact ih (k + 1) f (by omega) (by omega)
    · rw [if_neg (fun q => c ((nI_eq (by omega) (by omega)).mp q))]
      unfold f_X10_voters_j38
      simp only [c, decide_false, Bool.false_eq_true, if_false] at hs
      rw [bI_s, hs, nI_p1]
      exact ih (k + 1) f (by omega) (by omega)
theorem voters_eq {μ : Mm} {P Q i v : Nat} {h : Hs} {b : Bt} (hr : μ.2 = RFt P Q) (hm : hM h ≤ 7) (hp : μ.1 107 7 = nI (hM h)) (hb : MB μ 112 0 h b) (hk : bok h b) (hi : i < 5) (hv : v ≤ 2) :
    f_X10_voters μ 107 (nI i) (nI v) = some (nI (bset (fun p => decide (b p i = v)) (hM h)), μ) :=
  voters_loop hr hm hp hb hk hi hv (hM h) 0 FU (by omega) (by rw [FU_eq]; omega)
theorem mstandOf_eq {μ : Mm} {P Q i : Nat} {h : Hs} {b : Bt} (hr : μ.2 = RFt P Q) (hm : hM h ≤ 7) (hp : μ.1 107 7 = nI (hM h)) (hb : MB μ 112 0 h b) (hk : bok h b) (hi : i < 5) : f_X10_standOf μ 107 (nI i) = some (nI (stand h b i), μ) := by
  unfold f_X10_standOf
  have v1 := voters_eq (v := 1) hr hm hp hb hk hi (by omega)
  have v0 := voters_eq (v := 0) hr hm hp hb hk hi (by omega)
  rw [show (1 : Int32) = nI 1 from rfl, v1, bC_s, bt_eq μ (bset7 _ hm), bC_s, show (0 : Int32) = nI 0 from rfl, v0, bC_s, bt_eq μ (bset7 _ hm), bC_s, pc_bset _ hm, pc_bset _ hm, standsBy_eq μ (cn8 _ hm) (cn8 _ hm), bC_s]
  rfl
