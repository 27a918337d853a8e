/-! heights -/
theorem CH.as {μ μ' : Mm} {P : Nat} {h : Hs} {X : Nat → Prop} (hb : CH μ P h) (hP : P = 3 ∨ P = 11) (g : Ag μ μ' X) (hX : ∀ a, a ≤ 18 → ¬ X a) : CH μ' P h := hb.ag g (hX _ (by omega)) (hX _ (by omega)) (hX _ (by omega)) (hX _ (by omega)) (hX _ (by omega))
def itm (h : Hs) (s : Nat → Nat) (c : Nat) : Nat → Nat
  | 0 => 0
  | n + 1 => if 0 < s n ∧ isOf h n c = true then n + 1 else itm h s c n
def lvl (h : Hs) (s : Nat → Nat) (c i : Nat) : Nat := if s i = 1 ∧ c % hC h ≠ h 2 i % hC h then h 4 i - 1 else h 4 i
def hgk (h : Hs) (s : Nat → Nat) (c k : Nat) : Nat := match itm h s c k with
  | 0 => h 1 c
  | i + 1 => lvl h s c i
def hgt (h : Hs) (s : Nat → Nat) (c : Nat) : Nat := hgk h s c (hN h)
theorem itm_le (h : Hs) (s : Nat → Nat) (c : Nat) : ∀ n, itm h s c n ≤ n
  | 0 => Nat.le_refl 0
  | n + 1 => by
    have := itm_le h s c n
    unfold itm
    split <;> omega
theorem hgt_le {h : Hs} (k : hok h) (s : Nat → Nat) (c : Nat) : hgt h s c ≤ 9 := by
  unfold hgt hgk
  have h1 := itm_le h s c (hN h)
  split
  · exact k.2.2.2.2.2.2.1 c
  · rename_i i e
    have h2 := (k.2.2.2.2.2.2.2 i (by omega)).2.2.2.2
    unfold lvl
    split <;> omega
theorem lnP1 {P : Nat} (hP : P = 3 ∨ P = 11) : ln (P + 1) = 20 := by rcases hP with rfl | rfl <;> rfl
theorem lnP2 {P : Nat} (hP : P = 3 ∨ P = 11) : ln (P + 2) = 5 := by rcases hP with rfl | rfl <;> rfl
theorem lnP3 {P : Nat} (hP : P = 3 ∨ P = 11) : ln (P + 3) = 5 := by rcases hP with rfl | rfl <;> rfl
theorem lnP4 {P : Nat} (hP : P = 3 ∨ P = 11) : ln (P + 4) = 5 := by rcases hP with rfl | rfl <;> rfl
theorem ck0_n {n : Nat} (h : 0 < n) (h2 : n < 2 ^ 31) : ck0 (nI n) = true := by
  simp [ck0, nI_ne0 h h2]
theorem ownHeight_eq {P Q c : Nat} {h : Hs} {μ : Mm} (hP : P = 3 ∨ P = 11) (hr : μ.2 = RFt P Q) (hh : CH μ P h) (hc : c < 20) : f_X4_ownHeight μ P (nI c) = some (nI (h 1 c), μ) := by
  obtain ⟨t, ht, e5, hg⟩ := hh.2.2.2.2.2.1
  unfold f_X4_ownHeight
  rw [e5]
  by_cases q : t = 0
  · subst q
    rw [if_pos (show nI 0 ≤ 0 from by decide)]
    unfold f_X4_ownHeight_j17
    rw [if_pos (by decide), (hg c hc).1 rfl]
    rfl
  · have h0 : 0 < t := by omega
    have hm : c % t < t := Nat.mod_lt c h0
    rw [if_neg (nI_nle h0 (by omega)), ck0_n h0 (by omega), gd_t, pk_rem (by omega) h0 (by omega)]
    unfold f_X4_ownHeight_j17
    rw [if_neg (nI_pos (by omega)), rd hr (rt_h6 Q hP), bR_s, bR_s, lnP1 hP, if_neg (show ¬ Int32.ofNat 20 ≤ nI (c % t) from nI_ge (show c % t < 20 by omega) (by decide)), ckb_n (show c % t < 20 by omega) (by decide), gd_t, nI_clamp (by omega), (hg c hc).2 h0]
theorem row5_eq {P Q i b : Nat} {μ : Mm} {k : Nat} (hr : μ.2 = RFt P Q) (hb : RFt P Q P k = some b) (hl : ln b = 5) (hi : i < 5) :
    (if nI i < 0 then some ((0 : Int32), μ) else bR (μ.2 P k) (fun b2 => if Int32.ofNat (ln b2) ≤ nI i then some ((0 : Int32), μ) else bR (μ.2 P k) (fun b4 => gd (ckb (nI i) (ln b4)) (some (μ.1 b4 (nI i).toNatClampNeg, μ))))) = some (μ.1 b i, μ) := by
  rw [if_neg (nI_pos (by omega)), rd hr hb, bR_s, bR_s, hl, if_neg (show ¬ Int32.ofNat 5 ≤ nI i from nI_ge hi (by decide)), ckb_n hi (by decide), gd_t, nI_clamp (by omega)]
theorem cellsOf_eq {P Q i : Nat} {h : Hs} {μ : Mm} (hP : P = 3 ∨ P = 11) (hk : hok h) (hr : μ.2 = RFt P Q) (hh : CH μ P h) (hi : i < hN h) : f_X4_cellsOf μ P (nI i) = some (nI (oS h i), μ) := by
  have := hk.2.2.1
  rw [← (hh.2.2.2.2.2.2 i hi).1]
  exact row5_eq hr (rt_h7 Q hP) (lnP2 hP) (by omega)
theorem levelOf_eq {P Q i : Nat} {h : Hs} {μ : Mm} (hP : P = 3 ∨ P = 11) (hk : hok h) (hr : μ.2 = RFt P Q) (hh : CH μ P h) (hi : i < hN h) : f_X4_levelOf μ P (nI i) = some (nI (h 4 i), μ) := by
  have := hk.2.2.1
  rw [← (hh.2.2.2.2.2.2 i hi).2.1]
  exact row5_eq hr (rt_h8 Q hP) (lnP3 hP) (by omega)
theorem firstColumnOf_eq {P Q i : Nat} {h : Hs} {μ : Mm} (hP : P = 3 ∨ P = 11) (hk : hok h) (hr : μ.2 = RFt P Q) (hh : CH μ P h) (hi : i < hN h) : f_X4_firstColumnOf μ P (nI i) = some (nI (h 2 i % hC h), μ) := by
  have := hk.2.2.1
  rw [← (hh.2.2.2.2.2.2 i hi).2.2]
  exact row5_eq hr (rt_h9 Q hP) (lnP4 hP) (by omega)
theorem columnOf_eq {P c : Nat} {h : Hs} {μ : Mm} (hk : hok h) (h0 : 0 < hC h) (hh : CH μ P h) (hc : c < 2 ^ 31) : f_X4_columnOf μ P (nI c) = some (nI (c % hC h), μ) := by
  have := hk.1
  unfold f_X4_columnOf
  rw [hh.1, if_neg (nI_nle h0 (by omega)), ck0_n h0 (by omega), gd_t, pk_rem hc h0 (by omega)]
theorem zpos {h : Hs} {c : Nat} (hk : hok h) (hc : c < hZ h) : 0 < hC h := by
  rcases Nat.eq_zero_or_pos (hC h) with q | q
  · exfalso
    unfold hZ at hc
    rw [q, Nat.zero_mul] at hc
    omega
  · exact q
theorem oS_lt {h : Hs} (hk : hok h) (i : Nat) : oS h i < 2 ^ 31 := Nat.lt_of_lt_of_le (bset_lt _ _) (Nat.pow_le_pow_right (by decide) (Nat.le_trans hk.z (by decide)))
abbrev X9495 (a : Nat) : Prop := a = 94 ∨ a = 95
theorem lay_loop {P Q i lo : Nat} {h : Hs} {s : Nat → Nat} (hP : P = 3 ∨ P = 11) (hk : hok h) (hi : i < hN h) (hlo : lo = if s i = 1 then h 4 i - 1 else h 4 i) : ∀ (m c f : Nat) (μ : Mm), c + m = hZ h → m < f → μ.2 = RFt P Q → CH μ P h → μ.1 93 3 = nI (hZ h) →
    ∃ μ', f_X2_lay_L43 f μ 93 P (nI i) (nI (oS h i)) (nI (h 4 i)) (nI lo) (nI (h 2 i % hC h)) (nI c) = some μ' ∧ Ag μ μ' X9495 ∧
      ∀ d, (μ'.1 94 d = if c ≤ d ∧ d < hZ h ∧ isOf h i d = true then nI (lvl h s d i) else μ.1 94 d) ∧ (μ'.1 95 d = if c ≤ d ∧ d < hZ h ∧ isOf h i d = true then nI i else μ.1 95 d) := by
  have hz := hk.z
  have hN5 := hk.2.2.1
  intro m
  induction m with
  | zero =>
    intro c f μ hc hf hr hh h3
    obtain ⟨f, rfl⟩ := fs1 hf
    refine ⟨μ, ?_, Ag.rf, fun d => ⟨by rw [if_neg (by omega)], by rw [if_neg (by omega)]⟩⟩
    show f_X2_lay_L43b _ _ _ _ _ _ _ _ _ _ = _
    unfold f_X2_lay_L43b
    rw [h3, if_pos (nI_le (by omega) (by omega))]
  | succ m ih =>
    intro c f μ hc hf hr hh h3
    obtain ⟨f, rfl⟩ := fs1 hf
    have hcz : c < hZ h := by omega
    have h0 := zpos hk hcz
    have hbit : (nI (oS h i) >>> (nI c &&& 31)) &&& 1 = bz (isOf h i c) := by
      rw [bit_01 (oS_lt hk i) (by omega)]
      unfold oS
      rw [bset_bit]
      simp [hcz]
    by_cases q : isOf h i c = true
    · have g1 : Ag μ (up2 μ.1 94 c (nI (lvl h s c i)), μ.2) X9495 := Ag.up (Or.inl rfl)
      have g2 : Ag (up2 μ.1 94 c (nI (lvl h s c i)), μ.2) (up2 (up2 μ.1 94 c (nI (lvl h s c i))) 95 c (nI i), μ.2) X9495 := Ag.up (Or.inr rfl)
      have g := g1.tr g2
      obtain ⟨μ', e1, e2, e3⟩ := ih (c + 1) f (up2 (up2 μ.1 94 c (nI (lvl h s c i))) 95 c (nI i), μ.2) (by omega) (by omega) hr (hh.as hP g (fun a h => by omega)) (by rw [g.2 93 (by decide)]; exact h3)
      refine ⟨μ', ?_, g.tr e2, fun d => ⟨?_, ?_⟩⟩
      · show f_X2_lay_L43b _ _ _ _ _ _ _ _ _ _ = _
        unfold f_X2_lay_L43b
        have hgo : ∀ v : Int32, v = nI (lvl h s c i) → f_X2_lay_j86 (f_X2_lay_L43 f) μ 93 P (nI i) (nI (oS h i)) (nI (h 4 i)) (nI lo) (nI (h 2 i % hC h)) (nI c) v (nI c) 94 = some μ' := by
          intro v hv
          unfold f_X2_lay_j86 f_X2_lay_j95
          rw [hv, ckb_n (show c < ln 94 by show c < 20; omega) (by decide), gd_t, bM_s, nI_clamp (by omega)]
          show bR (μ.2 93 1) _ = _
          rw [rd hr (rt_93_1 P Q), bR_s, ckb_n (show c < ln 95 by show c < 20; omega) (by decide), gd_t, bM_s, nI_p1]
          exact e1
        rw [h3, if_neg (nI_ge (by omega) (by omega)), hbit, if_neg (by rw [bz_e, q]; decide), rd hr (rt_93_0 P Q), bR_s, columnOf_eq hk h0 hh (by omega), bC_s]
        have hm1 := Nat.mod_lt c h0
        have hm2 := Nat.mod_lt (h 2 i) h0
        have hC5 := hk.1
        by_cases q2 : c % hC h = h 2 i % hC h
        · rw [if_pos (by rw [q2])]
          exact hgo _ (by unfold lvl; rw [if_neg (by simp [q2])])
        · rw [if_neg (fun e => q2 ((nI_eq (by omega) (by omega)).mp e))]
          exact hgo _ (by unfold lvl; rw [hlo]; by_cases q3 : s i = 1 <;> simp [q2, q3])
      · rw [(e3 d).1]
        dsimp only
        rw [up2_na (by decide)]
        by_cases qd : d = c
        · subst qd
          rw [if_neg (by omega), up2_at, if_pos ⟨Nat.le_refl _, hcz, q⟩]
        · rw [up2_nk qd]
          by_cases q5 : c + 1 ≤ d ∧ d < hZ h ∧ isOf h i d = true
          · rw [if_pos q5, if_pos ⟨by omega, q5.2⟩]
          · rw [if_neg q5, if_neg (fun q6 => q5 ⟨by omega, q6.2⟩)]
      · rw [(e3 d).2]
        dsimp only
        by_cases qd : d = c
        · subst qd
          rw [if_neg (by omega), up2_at, if_pos ⟨Nat.le_refl _, hcz, q⟩]
        · rw [up2_nk qd, up2_na (by decide)]
          by_cases q5 : c + 1 ≤ d ∧ d < hZ h ∧ isOf h i d = true
          · rw [if_pos q5, if_pos ⟨by omega, q5.2⟩]
          · rw [if_neg q5, if_neg (fun q6 => q5 ⟨by omega, q6.2⟩)]
    · obtain ⟨μ', e1, e2, e3⟩ := ih (c + 1) f μ (by omega) (by omega) hr hh h3
      have hiff : ∀ d, (c + 1 ≤ d ∧ d < hZ h ∧ isOf h i d = true) ↔ (c ≤ d ∧ d < hZ h ∧ isOf h i d = true) := fun d => ⟨fun w => ⟨by omega, w.2⟩, fun w => ⟨by
        rcases Nat.lt_or_ge c d with q7 | q7
        · exact q7
        · exact absurd (show isOf h i c = true by rw [show c = d by omega]; exact w.2.2) q, w.2⟩⟩
      refine ⟨μ', ?_, e2, fun d => ⟨?_, ?_⟩⟩
      · show f_X2_lay_L43b _ _ _ _ _ _ _ _ _ _ = _
        unfold f_X2_lay_L43b f_X2_lay_j95
        rw [h3, if_neg (nI_ge (by omega) (by omega)), hbit, if_pos (by rw [bz_e]; simpa using q), nI_p1]
        exact e1
      · rw [(e3 d).1]
        simp only [hiff d]
      · rw [(e3 d).2]
        simp only [hiff d]
theorem lower_eq {l : Nat} (hl : l ≤ 9) : (if (0 : Int32) < nI l - (1 : Int32) then nI l - (1 : Int32) else (0 : Int32)) = nI (l - 1) := by
  revert hl l
  have : ∀ l, l < 10 → (if (0 : Int32) < nI l - (1 : Int32) then nI l - (1 : Int32) else (0 : Int32)) = nI (l - 1) := by decide +kernel
  intro l hl
  exact this l (by omega)
theorem lay_eq {P Q i : Nat} {h : Hs} {s : Nat → Nat} {μ : Mm} {b : Bool} (hP : P = 3 ∨ P = 11) (hk : hok h) (hi : i < hN h) (hb : b = decide (s i = 1)) (hr : μ.2 = RFt P Q) (hh : CH μ P h) (h3 : μ.1 93 3 = nI (hZ h)) :
    ∃ μ', f_X2_lay μ 93 P (nI i) (bz b) = some μ' ∧ Ag μ μ' X9495 ∧
      ∀ d, (μ'.1 94 d = if d < hZ h ∧ isOf h i d = true then nI (lvl h s d i) else μ.1 94 d) ∧ (μ'.1 95 d = if d < hZ h ∧ isOf h i d = true then nI i else μ.1 95 d) := by
  obtain ⟨μ', e1, e2, e3⟩ := lay_loop (Q := Q) (s := s) hP hk hi rfl (hZ h) 0 FU μ (by omega) (by rw [FU_eq]; have := hk.z; omega) hr hh h3
  refine ⟨μ', ?_, e2, fun d => ?_⟩
  · unfold f_X2_lay
    rw [cellsOf_eq hP hk hr hh hi, bC_s, levelOf_eq hP hk hr hh hi, bC_s]
    have hl9 := (hk.2.2.2.2.2.2.2 i hi).2.2.2.2
    by_cases q : s i = 1
    · rw [if_neg (by rw [bz_e, hb]; simp [q]), lower_eq hl9]
      unfold f_X2_lay_j31
      rw [firstColumnOf_eq hP hk hr hh hi, bC_s]
      rw [if_pos q] at e1
      exact e1
    · rw [if_pos (by rw [bz_e, hb]; simp [q])]
      unfold f_X2_lay_j31
      rw [firstColumnOf_eq hP hk hr hh hi, bC_s]
      rw [if_neg q] at e1
      exact e1
  · have := e3 d
    simpa using this
def CHl (μ : Mm) (h : Hs) (s : Nat → Nat) (k : Nat) : Prop := μ.1 93 3 = nI (hZ h) ∧ μ.1 93 4 = nI (hC h) ∧ ∀ c, c < hZ h → μ.1 94 c = nI (hgk h s c k) ∧ μ.1 95 c = nI (itm h s c k) - 1 ∧ μ.1 96 c = -1
theorem hgk_s {h : Hs} {s : Nat → Nat} {c k : Nat} (h1 : 0 < s k) (h2 : isOf h k c = true) : hgk h s c (k + 1) = lvl h s c k ∧ itm h s c (k + 1) = k + 1 := by
  have e : itm h s c (k + 1) = k + 1 := by
    show (if 0 < s k ∧ isOf h k c = true then k + 1 else itm h s c k) = k + 1
    rw [if_pos ⟨h1, h2⟩]
  unfold hgk
  rw [e]
  exact ⟨rfl, rfl⟩
theorem hgk_n {h : Hs} {s : Nat → Nat} {c k : Nat} (h1 : ¬ (0 < s k ∧ isOf h k c = true)) : hgk h s c (k + 1) = hgk h s c k ∧ itm h s c (k + 1) = itm h s c k := by
  have e : itm h s c (k + 1) = itm h s c k := by
    show (if 0 < s k ∧ isOf h k c = true then k + 1 else itm h s c k) = itm h s c k
    rw [if_neg h1]
  unfold hgk
  rw [e]
  exact ⟨rfl, rfl⟩
theorem shape_loop {P Q : Nat} {h : Hs} {s : Nat → Nat} (hP : P = 3 ∨ P = 11) (hk : hok h) (hs : ∀ i, s i ≤ 2) : ∀ (m k f : Nat) (μ : Mm), k + m = hN h → m < f → μ.2 = RFt P Q → CH μ P h → CW μ s (hN h) → CHl μ h s k →
    ∃ μ', f_X2_shape_L64 f μ 93 P 91 (nI k) = some μ' ∧ Ag μ μ' X9495 ∧ CHl μ' h s (hN h) := by
  have hN5 := hk.2.2.1
  intro m
  induction m with
  | zero =>
    intro k f μ hkm hf hr hh hw hl
    obtain ⟨f, rfl⟩ := fs1 hf
    refine ⟨μ, ?_, Ag.rf, by rw [show hN h = k by omega]; exact hl⟩
    show f_X2_shape_L64b _ _ _ _ _ _ = _
    unfold f_X2_shape_L64b
    rw [hh.2.2.2.1, if_pos (nI_le (by omega) (by omega))]
  | succ m ih =>
    intro k f μ hkm hf hr hh hw hl
    obtain ⟨f, rfl⟩ := fs1 hf
    have hkN : k < hN h := by omega
    have hsk := hs k
    by_cases q : s k = 0
    · obtain ⟨μ', e1, e2, e3⟩ := ih (k + 1) f μ (by omega) (by omega) hr hh hw ⟨hl.1, hl.2.1, fun c hc => by
        obtain ⟨w1, w2⟩ := hgk_n (h := h) (s := s) (c := c) (k := k) (by omega)
        rw [w1, w2]
        exact hl.2.2 c hc⟩
      refine ⟨μ', ?_, e2, e3⟩
      show f_X2_shape_L64b _ _ _ _ _ _ = _
      unfold f_X2_shape_L64b f_X2_shape_j100
      rw [hh.2.2.2.1, if_neg (nI_ge (by omega) (by omega)), wstandOf_eq hr hN5 hw hkN, bC_s, if_pos (by rw [q]; rfl), nI_p1]
      exact e1
    · obtain ⟨μ1, d1, d2, d3⟩ := lay_eq (Q := Q) (s := s) (b := decide (s k = 1)) hP hk hkN rfl hr hh hl.1
      obtain ⟨μ', e1, e2, e3⟩ := ih (k + 1) f μ1 (by omega) (by omega) (d2.1.trans hr) (hh.as hP d2 (fun a h => by omega)) (hw.ag d2 (by decide) (by decide)) ⟨by rw [d2.2 93 (by decide)]; exact hl.1, by rw [d2.2 93 (by decide)]; exact hl.2.1, fun c hc => by
        obtain ⟨v1, v2, v3⟩ := hl.2.2 c hc
        rw [(d3 c).1, (d3 c).2, d2.2 96 (by decide)]
        by_cases q2 : isOf h k c = true
        · obtain ⟨w1, w2⟩ := hgk_s (h := h) (s := s) (c := c) (k := k) (by omega) q2
          rw [if_pos ⟨hc, q2⟩, if_pos ⟨hc, q2⟩, w1, w2]
          exact ⟨rfl, (nI_pred k).symm, v3⟩
        · obtain ⟨w1, w2⟩ := hgk_n (h := h) (s := s) (c := c) (k := k) (fun w => q2 w.2)
          rw [if_neg (fun w => q2 w.2), if_neg (fun w => q2 w.2), w1, w2]
          exact ⟨v1, v2, v3⟩⟩
      refine ⟨μ', ?_, d2.tr e2, e3⟩
      show f_X2_shape_L64b _ _ _ _ _ _ = _
      unfold f_X2_shape_L64b f_X2_shape_j97 f_X2_shape_j100
      rw [hh.2.2.2.1, if_neg (nI_ge (by omega) (by omega)), wstandOf_eq hr hN5 hw hkN, bC_s, if_neg (fun w => nI_ne0 (show 0 < s k by omega) (by omega) w), wstandOf_eq hr hN5 hw hkN, bC_s]
      by_cases q3 : s k = 1
      · rw [if_pos (by rw [q3]; rfl), show (1 : Int32) = bz (decide (s k = 1)) from by rw [q3]; rfl, d1, bV_s, ← show (1 : Int32) = bz (decide (s k = 1)) from by rw [q3]; rfl, nI_p1]
        exact e1
      · rw [if_neg (show ¬ nI (s k) = (1 : Int32) from fun w => q3 ((nI_eq (a := s k) (b := 1) (by omega) (by omega)).mp w)), show (0 : Int32) = bz (decide (s k = 1)) from by simp [q3, bz], d1, bV_s, nI_p1]
        exact e1
theorem shape_init {P Q : Nat} {h : Hs} (hP : P = 3 ∨ P = 11) (hk : hok h) : ∀ (m c f : Nat) (μ : Mm), c + m = hZ h → m < f → μ.2 = RFt P Q → CH μ P h → μ.1 93 3 = nI (hZ h) →
    ∃ μ', f_X2_shape_L23 f μ 93 P 91 (nI c) = f_X2_shape_L64 FU μ' 93 P 91 0 ∧ Ag μ μ' (fun a => a = 94 ∨ a = 95 ∨ a = 96) ∧
      ∀ d, (μ'.1 94 d = if c ≤ d ∧ d < hZ h then nI (h 1 d) else μ.1 94 d) ∧ (μ'.1 95 d = if c ≤ d ∧ d < hZ h then -1 else μ.1 95 d) ∧ (μ'.1 96 d = if c ≤ d ∧ d < hZ h then -1 else μ.1 96 d) := by
  have hz := hk.z
  intro m
  induction m with
  | zero =>
    intro c f μ hc hf hr hh h3
    obtain ⟨f, rfl⟩ := fs1 hf
    refine ⟨μ, ?_, Ag.rf, fun d => ⟨by rw [if_neg (by omega)], by rw [if_neg (by omega)], by rw [if_neg (by omega)]⟩⟩
    show f_X2_shape_L23b _ _ _ _ _ _ = _
    unfold f_X2_shape_L23b
    rw [h3, if_pos (nI_le (by omega) (by omega))]
  | succ m ih =>
    intro c f μ hc hf hr hh h3
    obtain ⟨f, rfl⟩ := fs1 hf
    have g1 : Ag μ (up2 μ.1 94 c (nI (h 1 c)), μ.2) (fun a => a = 94 ∨ a = 95 ∨ a = 96) := Ag.up (Or.inl rfl)
    have g2 : Ag (up2 μ.1 94 c (nI (h 1 c)), μ.2) (up2 (up2 μ.1 94 c (nI (h 1 c))) 95 c (-1), μ.2) (fun a => a = 94 ∨ a = 95 ∨ a = 96) := Ag.up (Or.inr (Or.inl rfl))
    have g3 : Ag (up2 (up2 μ.1 94 c (nI (h 1 c))) 95 c (-1), μ.2) (up2 (up2 (up2 μ.1 94 c (nI (h 1 c))) 95 c (-1)) 96 c (-1), μ.2) (fun a => a = 94 ∨ a = 95 ∨ a = 96) := Ag.up (Or.inr (Or.inr rfl))
    have g := (g1.tr g2).tr g3
    obtain ⟨μ', e1, e2, e3⟩ := ih (c + 1) f (up2 (up2 (up2 μ.1 94 c (nI (h 1 c))) 95 c (-1)) 96 c (-1), μ.2) (by omega) (by omega) hr (hh.as hP g (fun a h => by omega)) (by rw [g.2 93 (by decide)]; exact h3)
    refine ⟨μ', ?_, g.tr e2, fun d => ?_⟩
    · show f_X2_shape_L23b _ _ _ _ _ _ = _
      unfold f_X2_shape_L23b
      rw [h3, if_neg (nI_ge (by omega) (by omega)), rd hr (rt_93_0 P Q), bR_s, ownHeight_eq hP hr hh (by omega), bC_s, ckb_n (show c < ln 94 by show c < 20; omega) (by decide), gd_t, bM_s, nI_clamp (by omega)]
      show bR (μ.2 93 1) _ = _
      rw [rd hr (rt_93_1 P Q), bR_s, ckb_n (show c < ln 95 by show c < 20; omega) (by decide), gd_t, bM_s]
      show bR (μ.2 93 2) _ = _
      rw [rd hr (rt_93_2 P Q), bR_s, ckb_n (show c < ln 96 by show c < 20; omega) (by decide), gd_t, bM_s, nI_p1]
      exact e1
    · obtain ⟨w1, w2, w3⟩ := e3 d
      rw [w1, w2, w3]
      dsimp only
      by_cases qd : d = c
      · subst qd
        have hd : d < hZ h := by omega
        simp [up2, hd]
      · have hiff : (c + 1 ≤ d ∧ d < hZ h) ↔ (c ≤ d ∧ d < hZ h) := ⟨fun w => ⟨by omega, w.2⟩, fun w => ⟨by omega, w.2⟩⟩
        simp [up2, qd, hiff]
abbrev Xhl (a : Nat) : Prop := 93 ≤ a ∧ a ≤ 96
theorem shape_eq {P Q : Nat} {h : Hs} {s : Nat → Nat} {μ : Mm} (hP : P = 3 ∨ P = 11) (hk : hok h) (hs : ∀ i, s i ≤ 2) (hr : μ.2 = RFt P Q) (hh : CH μ P h) (hw : CW μ s (hN h)) :
    ∃ μ', f_X2_shape μ 93 P 91 = some μ' ∧ Ag μ μ' Xhl ∧ CHl μ' h s (hN h) := by
  have hz := hk.z
  have g1 : Ag μ (up2 μ.1 93 3 (nI (hZ h)), μ.2) Xhl := Ag.up ⟨by decide, by decide⟩
  have g2 : Ag (up2 μ.1 93 3 (nI (hZ h)), μ.2) (up2 (up2 μ.1 93 3 (nI (hZ h))) 93 4 (nI (hC h)), μ.2) Xhl := Ag.up ⟨by decide, by decide⟩
  have g := g1.tr g2
  have h3 : up2 (up2 μ.1 93 3 (nI (hZ h))) 93 4 (nI (hC h)) 93 3 = nI (hZ h) := by rw [up2_nk (by decide), up2_at]
  have h4 : up2 (up2 μ.1 93 3 (nI (hZ h))) 93 4 (nI (hC h)) 93 4 = nI (hC h) := by rw [up2_at]
  have hh1 := hh.as hP g (fun a h => by omega)
  obtain ⟨μ1, d1, d2, d3⟩ := shape_init (Q := Q) hP hk (hZ h) 0 FU (up2 (up2 μ.1 93 3 (nI (hZ h))) 93 4 (nI (hC h)), μ.2) (by omega) (by rw [FU_eq]; omega) hr hh1 h3
  have hh2 := hh1.as hP d2 (fun a h => by omega)
  have hw2 : CW μ1 s (hN h) := (hw.ag g (by decide) (by decide)).ag d2 (by decide) (by decide)
  have hl0 : CHl μ1 h s 0 := ⟨by rw [d2.2 93 (by decide)]; exact h3, by rw [d2.2 93 (by decide)]; exact h4, fun c hc => by
    obtain ⟨w1, w2, w3⟩ := d3 c
    rw [w1, w2, w3, if_pos ⟨by omega, hc⟩, if_pos ⟨by omega, hc⟩, if_pos ⟨by omega, hc⟩]
    exact ⟨rfl, (by show (-1 : Int32) = nI 0 - 1; decide), rfl⟩⟩
  obtain ⟨μ', e1, e2, e3⟩ := shape_loop (Q := Q) hP hk hs (hN h) 0 FU μ1 (by omega) (by rw [FU_eq]; have := hk.2.2.1; omega) (d2.1.trans hr) hh2 hw2 hl0
  refine ⟨μ', ?_, (g.tr (d2.wk (fun a q => by omega))).tr (e2.wk (fun a q => by omega)), e3⟩
  unfold f_X2_shape
  have hmin : (if (20 : Int32) < nI (hZ h) then (20 : Int32) else nI (hZ h)) = nI (hZ h) := by
    rw [if_neg (show ¬ (20 : Int32) < nI (hZ h) from nI_nlt (a := 20) (b := hZ h) hz (by omega))]
  have hC0 : up2 μ.1 93 3 (nI (hZ h)) P 0 = nI (hC h) := by
    rw [up2_na (by omega)]
    exact hh.1
  rw [hh.2.2.1, hmin, bM_s]
  show bM (up2 (up2 μ.1 93 3 _) 93 4 (up2 μ.1 93 3 _ P 0), μ.2) _ = _
  rw [hC0, bM_s, show (0 : Int32) = nI 0 from rfl, d1]
  exact e1
theorem shapeNow_eq {P Q : Nat} {h : Hs} {b : Bt} {μ : Mm} (hP : P = 3 ∨ P = 11) (hk : hok h) (hr : μ.2 = RFt P Q) (hh : CH μ P h) (hb : CB μ 19 h b) :
    ∃ μ', f_X9_shapeNow μ 0 = some μ' ∧ Ag μ μ' (fun a => 91 ≤ a ∧ a ≤ 96) ∧ CHl μ' h (stand h b) (hN h) := by
  obtain ⟨μ1, e1, e2, e3⟩ := follow_eq (N := hN h) hk.2.2.2.1 hk.2.2.1 hr hb
  have hr1 := e2.1.trans hr
  obtain ⟨μ', d1, d2, d3⟩ := shape_eq (Q := Q) hP hk (stand_le h b) hr1 (hh.as hP e2 (fun a h => by omega)) e3
  refine ⟨μ', ?_, (e2.wk (fun a q => by omega)).tr (d2.wk (fun a q => by omega)), d3⟩
  unfold f_X9_shapeNow
  rw [rd hr (rt_0_9 P Q), bR_s, rd hr (rt_0_4 P Q), bR_s, rd hr (rt_p P Q), bR_s, hh.2.2.2.1, e1, bV_s, rd hr1 (rt_0_10 P Q), bR_s, rd hr1 (rt_p P Q), bR_s, rd hr1 (rt_0_9 P Q), bR_s, d1, bV_s]
