/-! the reference's heights and marbles -/
theorem in_nat (μ : Mm) {x a b : Nat} (hx : x < 2 ^ 31) (ha : a < 2 ^ 31) (hb : b < 2 ^ 31) : f_X10_in μ (nI x).toInt64 (nI a).toInt64 (nI b).toInt64 = some (bz (decide (a ≤ x) && decide (x ≤ b)), μ) := by
  rw [in_core, decide_eq_decide.mpr (nI_leI ha hx), decide_eq_decide.mpr (nI_leI hx hb)]
theorem misOf_eq {P Q i c : Nat} {h : Hs} {μ : Mm} (hk : hok h) (hr : μ.2 = RFt P Q) (hh : MH μ h) (hi : i < hN h) (hc : c < hZ h) : f_X10_isOf μ 107 (nI i) (nI c) = some (bz (isOf h i c), μ) := by
  have hz := hk.z
  have h0 := zpos hk hc
  have hC5 := hk.1
  have hN5 := hk.2.2.1
  obtain ⟨b1, b2, -⟩ := hk.2.2.2.2.2.2.2 i hi
  obtain ⟨m1, m2, m3⟩ := hh.2.2.2.2.2 i hi
  have hck := ck0_n h0 (show hC h < 2 ^ 31 by omega)
  have d1 : ∀ a, a < hZ h → nI a / nI (hC h) = nI (a / hC h) := fun a ha => pk_div (by omega) h0 (by omega)
  have d2 : ∀ a, a < hZ h → nI a - nI a / nI (hC h) * nI (hC h) = nI (a % hC h) := fun a ha => pk_rem (by omega) h0 (by omega)
  have v1 : ∀ a, a < hZ h → a / hC h < 2 ^ 31 := fun a ha => Nat.lt_of_le_of_lt (Nat.div_le_self _ _) (by omega)
  have v2 : ∀ a, a < hZ h → a % hC h < 2 ^ 31 := fun a ha => Nat.lt_of_le_of_lt (Nat.mod_le _ _) (by omega)
  have k1 : ckb (nI i) (ln 109) = true := ckb_n (show i < 5 by omega) (by decide)
  have k2 : ckb (nI i) (ln 110) = true := ckb_n (show i < 5 by omega) (by decide)
  unfold f_X10_isOf
  rw [hh.1, hck, gd_t, bI_s, gd_t, bI_s, rd hr (rt_107_4 P Q), bR_s, k1, gd_t, gd_t, rd hr (rt_107_5 P Q), bR_s, k2, gd_t, gd_t, nI_clamp (by omega), m1, m2, d1 c hc, d1 _ b1, d1 _ b2, in_nat μ (v1 _ hc) (v1 _ b1) (v1 _ b2), bC_s]
  by_cases q : h 2 i / hC h ≤ c / hC h ∧ c / hC h ≤ h 3 i / hC h
  · rw [if_neg (by rw [bz_e]; simp [q]), rd hr (rt_107_4 P Q), bR_s, k1, gd_t, hh.1, hck, gd_t, rd hr (rt_107_5 P Q), bR_s, k2, gd_t, gd_t, m1, m2, ← d1 c hc, d2 c hc, d2 _ b1, d2 _ b2, in_nat μ (v2 _ hc) (v2 _ b1) (v2 _ b2), bC_s]
    by_cases q2 : h 2 i % hC h ≤ c % hC h ∧ c % hC h ≤ h 3 i % hC h
    · rw [if_neg (by rw [bz_e]; simp [q2])]
      have : isOf h i c = true := decide_eq_true ⟨q.1, q.2, q2.1, q2.2⟩
      rw [this]
      rfl
    · rw [if_pos (by rw [bz_e]; simp only [Bool.and_eq_false_iff, decide_eq_false_iff_not]; omega)]
      have : isOf h i c = false := decide_eq_false (fun w => q2 ⟨w.2.2.1, w.2.2.2⟩)
      rw [this]
      rfl
  · rw [if_pos (by rw [bz_e]; simp only [Bool.and_eq_false_iff, decide_eq_false_iff_not]; omega)]
    have : isOf h i c = false := decide_eq_false (fun w => q ⟨w.1, w.2.1⟩)
    rw [this]
    rfl
theorem mitem_loop {P Q c : Nat} {h : Hs} {s : Nat → Nat} {μ : Mm} (hk : hok h) (hs : ∀ i, s i ≤ 2) (hr : μ.2 = RFt P Q) (hh : MH μ h) (hw : MW μ s (hN h)) (hc : c < hZ h) : ∀ (m k f : Nat), k + m = hN h → m < f →
    f_X10_itemOf_L4 f μ 107 (nI c) (nI (itm h s c k) - 1) (nI k) = some (nI (itm h s c (hN h)) - 1, μ) := by
  have hN5 := hk.2.2.1
  intro m
  induction m with
  | zero =>
    intro k f hkm hf
    obtain ⟨f, rfl⟩ := fs1 hf
    show f_X10_itemOf_L4b _ _ _ _ _ _ = _
    unfold f_X10_itemOf_L4b
    rw [hh.2.2.2.1, if_pos (nI_le (by omega) (by omega)), show k = hN h by omega]
  | succ m ih =>
    intro k f hkm hf
    obtain ⟨f, rfl⟩ := fs1 hf
    have hsk := hs k
    have e := ih (k + 1) f (by omega) (by omega)
    have hit : itm h s c (k + 1) = if 0 < s k ∧ isOf h k c = true then k + 1 else itm h s c k := rfl
    show f_X10_itemOf_L4b _ _ _ _ _ _ = _
    unfold f_X10_itemOf_L4b f_X10_itemOf_j34 f_X10_itemOf_j35
    rw [hh.2.2.2.1, if_neg (nI_ge (by omega) (by omega)), rd hr (rt_107_25 P Q), bR_s, ckb_n (show k < ln 120 by show k < 5; omega) (by decide), gd_t, nI_clamp (by omega), hw k (by omega)]
    by_cases q : s k = 0
    · rw [if_pos (by rw [q]; decide), nI_p1]
      rw [hit, if_neg (by omega)] at e
      exact e
    · rw [if_neg (nI_nle (by omega) (by omega)), misOf_eq hk hr hh (by omega) hc, bC_s, nI_p1]
      by_cases q2 : isOf h k c = true
      · rw [if_neg (by rw [bz_e, q2]; decide)]
        rw [hit, if_pos ⟨by omega, q2⟩, nI_sub1] at e
        exact e
      · rw [if_pos (by rw [bz_e]; simpa using q2)]
        rw [hit, if_neg (fun w => q2 w.2)] at e
        exact e
theorem mitemOf_eq {P Q c : Nat} {h : Hs} {s : Nat → Nat} {μ : Mm} (hk : hok h) (hs : ∀ i, s i ≤ 2) (hr : μ.2 = RFt P Q) (hh : MH μ h) (hw : MW μ s (hN h)) (hc : c < hZ h) : f_X10_itemOf μ 107 (nI c) = some (nI (itm h s c (hN h)) - 1, μ) := by
  have := mitem_loop hk hs hr hh hw hc (hN h) 0 FU (by omega) (by rw [FU_eq]; have := hk.2.2.1; omega)
  exact this
theorem mheightOf_eq {P Q c : Nat} {h : Hs} {s : Nat → Nat} {μ : Mm} (hk : hok h) (hs : ∀ i, s i ≤ 2) (hr : μ.2 = RFt P Q) (hh : MH μ h) (hw : MW μ s (hN h)) (hc : c < hZ h) : f_X10_heightOf μ 107 (nI c) = some (nI (hgt h s c), μ) := by
  have hz := hk.z
  have h0 := zpos hk hc
  have hC5 := hk.1
  have hN5 := hk.2.2.1
  unfold f_X10_heightOf
  rw [mitemOf_eq hk hs hr hh hw hc, bC_s]
  unfold hgt hgk
  have hle := itm_le h s c (hN h)
  cases e : itm h s c (hN h) with
  | zero =>
    rw [if_neg (by decide), rd hr (rt_107_2 P Q), bR_s, ckb_n (show c < ln 108 by show c < 20; omega) (by decide), gd_t, nI_clamp (by omega), hh.2.2.1 c (by omega)]
  | succ i =>
    have hi : i < hN h := by omega
    obtain ⟨b1, b2, b3, b4, b5⟩ := hk.2.2.2.2.2.2.2 i hi
    obtain ⟨m1, m2, m3⟩ := hh.2.2.2.2.2 i hi
    have hck := ck0_n h0 (show hC h < 2 ^ 31 by omega)
    have k120 : ckb (nI i) (ln 120) = true := ckb_n (show i < 5 by omega) (by decide)
    have k109 : ckb (nI i) (ln 109) = true := ckb_n (show i < 5 by omega) (by decide)
    have k111 : ckb (nI i) (ln 111) = true := ckb_n (show i < 5 by omega) (by decide)
    have j77 : f_X10_heightOf_j77 μ 107 (nI i) = some (nI (h 4 i), μ) := by
      unfold f_X10_heightOf_j77
      rw [rd hr (rt_107_6 P Q), bR_s, k111, gd_t, nI_clamp (by omega), m3]
    have j51 : f_X10_heightOf_j51 μ 107 (nI i) = some (nI (h 4 i), μ) := by
      unfold f_X10_heightOf_j51 f_X10_heightOf_j52
      rw [if_pos rfl]
      exact j77
    have hsi := hs i
    have hm1 := Nat.mod_lt c h0
    have hm2 := Nat.mod_lt (h 2 i) h0
    rw [nI_sub1, if_pos (nI_pos' (by omega)), rd hr (rt_107_25 P Q), bR_s, k120, gd_t, nI_clamp (by omega), hw i hi]
    show _ = some (nI (lvl h s c i), μ)
    unfold lvl
    by_cases q : s i = 1
    · rw [if_pos (by rw [q]; rfl), hh.1, hck, gd_t, rd hr (rt_107_4 P Q), bR_s, k109, gd_t, gd_t, m1, pk_rem (by omega) h0 (by omega), pk_rem (by omega) h0 (by omega)]
      by_cases q2 : c % hC h = h 2 i % hC h
      · rw [if_pos (by rw [q2]), if_neg (by simp [q2])]
        exact j51
      · rw [if_neg (nI_ne q2 (by omega) (by omega)), if_pos ⟨q, q2⟩]
        unfold f_X10_heightOf_j52
        rw [if_neg (by decide), rd hr (rt_107_6 P Q), bR_s, k111, gd_t, nI_clamp (by omega), m3]
        by_cases q3 : h 4 i = 0
        · rw [if_pos (by rw [q3]; decide), j77, q3]
        · rw [if_neg (nI_nle (by omega) (by omega)), bR_s, k111, gd_t, m3]
          rw [show nI (h 4 i) - (1 : Int32) = nI (h 4 i - 1) from by rw [show h 4 i = (h 4 i - 1) + 1 by omega]; exact nI_sub1 _]
    · rw [if_neg (show ¬ nI (s i) = (1 : Int32) from nI_ne (b := 1) q (by omega) (by omega)), if_neg (fun w => q w.1)]
      exact j51
def MG (μ : Mm) (h : Hs) (s : Nat → Nat) : Prop := ∀ c, c < hZ h → μ.1 121 c = nI (hgt h s c)
theorem MG.ag {μ μ' : Mm} {h : Hs} {s : Nat → Nat} {X : Nat → Prop} (hb : MG μ h s) (g : Ag μ μ' X) (h0 : ¬ X 121) : MG μ' h s := by
  unfold MG
  rw [g.2 _ h0]
  exact hb
theorem mcells_eq {μ : Mm} {h : Hs} (hh : MH μ h) : f_X10_cells μ 107 = some (nI (hZ h), μ) := by
  unfold f_X10_cells
  rw [hh.1, hh.2.1, pk_mul]
  rfl
theorem mfind_loop {P Q : Nat} {h : Hs} {s : Nat → Nat} (hk : hok h) (hs : ∀ i, s i ≤ 2) : ∀ (m c f : Nat) (μ : Mm), c + m = hZ h → m < f → μ.2 = RFt P Q → MH μ h → MW μ s (hN h) → (∀ d, d < c → μ.1 121 d = nI (hgt h s d)) →
    ∃ μ', f_X10_findHeights_L2 f μ 107 (nI c) = some μ' ∧ Ag μ μ' (fun a => a = 121) ∧ MG μ' h s := by
  have hz := hk.z
  intro m
  induction m with
  | zero =>
    intro c f μ hc hf hr hh hw hg
    obtain ⟨f, rfl⟩ := fs1 hf
    refine ⟨μ, ?_, Ag.rf, fun d hd => hg d (by omega)⟩
    show f_X10_findHeights_L2b _ _ _ _ = _
    unfold f_X10_findHeights_L2b
    rw [mcells_eq hh, bC_s, if_pos (nI_le (by omega) (by omega))]
  | succ m ih =>
    intro c f μ hc hf hr hh hw hg
    obtain ⟨f, rfl⟩ := fs1 hf
    have g : Ag μ (up2 μ.1 121 c (nI (hgt h s c)), μ.2) (fun a => a = 121) := Ag.up rfl
    obtain ⟨μ', e1, e2, e3⟩ := ih (c + 1) f (up2 μ.1 121 c (nI (hgt h s c)), μ.2) (by omega) (by omega) hr (hh.ag g (by decide) (by decide) (by decide) (by decide) (by decide)) (hw.ag g (by decide)) (fun d hd => by
      show up2 μ.1 121 c _ 121 d = _
      by_cases q : d = c
      · rw [q, up2_at]
      · rw [up2_nk q]; exact hg d (by omega))
    refine ⟨μ', ?_, g.tr e2, e3⟩
    show f_X10_findHeights_L2b _ _ _ _ = _
    unfold f_X10_findHeights_L2b
    rw [mcells_eq hh, bC_s, if_neg (nI_ge (by omega) (by omega)), rd hr (rt_107_26 P Q), bR_s, mheightOf_eq hk hs hr hh hw (by omega), bC_s, ckb_n (show c < ln 121 by show c < 20; omega) (by decide), gd_t, bM_s, nI_clamp (by omega), nI_p1]
    exact e1
theorem mfind_eq {P Q : Nat} {h : Hs} {s : Nat → Nat} {μ : Mm} (hk : hok h) (hs : ∀ i, s i ≤ 2) (hr : μ.2 = RFt P Q) (hh : MH μ h) (hw : MW μ s (hN h)) :
    ∃ μ', f_X10_findHeights μ 107 = some μ' ∧ Ag μ μ' (fun a => a = 121) ∧ MG μ' h s :=
  mfind_loop hk hs (hZ h) 0 FU μ (by omega) (by rw [FU_eq]; have := hk.z; omega) hr hh hw (fun d hd => absurd hd (by omega))
abbrev Xms (a : Nat) : Prop := a = 120 ∨ a = 121
theorem mlook_eq {P Q : Nat} {h : Hs} {b : Bt} {μ : Mm} (hk : hok h) (hbk : bok h b) (hr : μ.2 = RFt P Q) (hh : MH μ h) (hb : MB μ 112 0 h b) :
    ∃ μ', f_X10_lookNow μ 107 = some μ' ∧ Ag μ μ' Xms ∧ MW μ' (stand h b) (hN h) ∧ MG μ' h (stand h b) := by
  obtain ⟨μ1, d1, d2, d3⟩ := mstandNow_eq hk hbk hr hh hb
  obtain ⟨μ', e1, e2, e3⟩ := mfind_eq (P := P) (Q := Q) hk (stand_le h b) (d2.1.trans hr) (hh.ag d2 (by decide) (by decide) (by decide) (by decide) (by decide)) d3
  refine ⟨μ', ?_, (d2.wk (fun a q => Or.inl q)).tr (e2.wk (fun a q => Or.inr q)), d3.ag e2 (by decide), e3⟩
  unfold f_X10_lookNow
  rw [d1, bC_s, e1, bV_s]
/-! rolling -/
def anv (C c d : Int32) : Int32 := (fun v3 : Int32 => (fun v6 : Int32 => if ((v3 * v3) + (v6 * v6)) = (1 : Int32) then (1 : Int32) else 0) ((c - c / C * C) - (d - d / C * C))) ((c / C) - (d / C))
theorem an_all : ∀ C, C < 6 → ∀ c, c < 20 → ∀ d, d < 20 → (decide (C = 0) || decide (anv (nI C) (nI c) (nI d) = bz (near C c d))) = true := by decide +kernel
theorem areNear_eq {c d : Nat} {h : Hs} {μ : Mm} (hk : hok h) (hh : MH μ h) (hc : c < hZ h) (hd : d < hZ h) : f_X10_areNear μ 107 (nI c) (nI d) = some (bz (near (hC h) c d), μ) := by
  have hz := hk.z
  have h0 := zpos hk hc
  have hC5 := hk.1
  have h1 := an_all (hC h) (by omega) c (by omega) d (by omega)
  rw [Bool.or_eq_true] at h1
  have h2 : anv (nI (hC h)) (nI c) (nI d) = bz (near (hC h) c d) := by
    rcases h1 with q | q
    · have := of_decide_eq_true q; omega
    · exact of_decide_eq_true q
  rw [← h2]
  unfold f_X10_areNear
  rw [hh.1, ck0_n h0 (by omega), gd_t, gd_t, bI_s, gd_t, gd_t, bI_s]
  unfold anv
  split
  · rename_i q; simp only [q, if_true]
  · rename_i q; simp only [q, if_false]
theorem nbk_s (C c k : Nat) : nbk C c (k + 1) = if near C c k = true then nbk C c k ++ [k] else nbk C c k := by
  unfold nbk
  rw [List.range_succ, List.filter_append]
  by_cases q : near C c k = true
  · simp [q]
  · simp [q]
theorem nbf_lt {C c k z : Nat} (H : Nat → Nat) (hc : c < z) (hk : k ≤ z) : (nbk C c k).foldl (lw H) c < z := by
  refine fold_lt H _ c (fun d hd => ?_) hc
  unfold nbk at hd
  have := List.mem_range.mp (List.mem_filter.mp hd).1
  omega
theorem mroll_loop {P Q c : Nat} {h : Hs} {s : Nat → Nat} {μ : Mm} (hk : hok h) (hr : μ.2 = RFt P Q) (hh : MH μ h) (hg : MG μ h s) (hc : c < hZ h) : ∀ (m k f : Nat), k + m = hZ h → m < f →
    f_X10_rollsTo_L4 f μ 107 (nI c) (nI ((nbk (hC h) c k).foldl (lw (hgt h s)) c)) (nI k) = some (nI (nx h s c), μ) := by
  have hz := hk.z
  intro m
  induction m with
  | zero =>
    intro k f hkm hf
    obtain ⟨f, rfl⟩ := fs1 hf
    show f_X10_rollsTo_L4b _ _ _ _ _ _ = _
    unfold f_X10_rollsTo_L4b
    rw [mcells_eq hh, bC_s, if_pos (nI_le (by omega) (by omega)), show k = hZ h by omega]
    rfl
  | succ m ih =>
    intro k f hkm hf
    obtain ⟨f, rfl⟩ := fs1 hf
    have e := ih (k + 1) f (by omega) (by omega)
    have hb : (nbk (hC h) c k).foldl (lw (hgt h s)) c < hZ h := nbf_lt _ hc (by omega)
    have l1 := hgt_le hk s k
    have l2 := hgt_le hk s ((nbk (hC h) c k).foldl (lw (hgt h s)) c)
    show f_X10_rollsTo_L4b _ _ _ _ _ _ = _
    unfold f_X10_rollsTo_L4b f_X10_rollsTo_j40 f_X10_rollsTo_j41
    rw [mcells_eq hh, bC_s, if_neg (nI_ge (by omega) (by omega)), areNear_eq hk hh hc (by omega), bC_s, nI_p1]
    rw [nbk_s] at e
    by_cases q : near (hC h) c k = true
    · rw [if_pos q, List.foldl_append] at e
      rw [if_neg (by rw [bz_e, q]; decide), rd hr (rt_107_26 P Q), bR_s, ckb_n (show k < ln 121 by show k < 20; omega) (by decide), gd_t, bR_s, ckb_n (show _ < ln 121 by show _ < 20; omega) (by decide), gd_t, nI_clamp (by omega), nI_clamp (by omega), hg _ hb, hg k (by omega)]
      have e2 : f_X10_rollsTo_L4 f μ 107 (nI c) (nI (lw (hgt h s) ((nbk (hC h) c k).foldl (lw (hgt h s)) c) k)) (nI (k + 1)) = some (nI (nx h s c), μ) := e
      unfold lw at e2
      by_cases q2 : hgt h s k < hgt h s ((nbk (hC h) c k).foldl (lw (hgt h s)) c)
      · rw [if_neg (nI_ge q2 (by omega))]
        unfold lw at q2
        rw [if_pos q2] at e2
        exact e2
      · rw [if_pos (nI_le (by omega) (by omega))]
        unfold lw at q2 ⊢
        rw [if_neg q2] at e2
        exact e2
    · rw [if_neg q] at e
      rw [if_pos (by rw [bz_e]; simpa using q)]
      exact e
theorem mrollsTo_eq {P Q c : Nat} {h : Hs} {s : Nat → Nat} {μ : Mm} (hk : hok h) (hr : μ.2 = RFt P Q) (hh : MH μ h) (hg : MG μ h s) (hc : c < hZ h) : f_X10_rollsTo μ 107 (nI c) = some (nI (nx h s c), μ) :=
  mroll_loop hk hr hh hg hc (hZ h) 0 FU (by omega) (by rw [FU_eq]; have := hk.z; omega)
theorem nx_dn {h : Hs} {s : Nat → Nat} (c : Nat) (q : nx h s c ≠ c) : hgt h s (nx h s c) < hgt h s c := nxt_dn _ q
theorem mrest_loop {P Q : Nat} {h : Hs} {s : Nat → Nat} {μ : Mm} (hk : hok h) (hr : μ.2 = RFt P Q) (hh : MH μ h) (hg : MG μ h s) : ∀ (k c f : Nat), hgt h s c < k → k < f → c < hZ h →
    f_X10_restOf_L8 f μ 107 (nI c) (nI (nx h s c)) = some (nI (rsF (nx h s) k c), μ) := by
  have hz := hk.z
  intro k
  induction k with
  | zero => intro c f h1; omega
  | succ k ih =>
    intro c f h1 hf hc
    obtain ⟨f, rfl⟩ := fs1 hf
    have hn := nx_lt s hc
    show f_X10_restOf_L8b _ _ _ _ _ = some (nI (if nx h s c = c then c else rsF (nx h s) k (nx h s c)), μ)
    unfold f_X10_restOf_L8b
    by_cases q : nx h s c = c
    · rw [if_pos (by rw [q]), if_pos q]
    · rw [if_neg (nI_ne q (by omega) (by omega)), if_neg q, mrollsTo_eq hk hr hh hg hn, bC_s]
      have := nx_dn c q
      exact ih (nx h s c) f (by omega) (by omega) hn
theorem rst_10 {h : Hs} (hk : hok h) (s : Nat → Nat) (c : Nat) : rsF (nx h s) 10 c = rst h s c ∧ rlF (nx h s) 10 c = rol h s c := by
  have := rsF_ge (N := nx h s) (H := hgt h s) (fun c q => nx_dn c q) (k := 10) (c := c) (by have := hgt_le hk s c; omega) 10
  exact ⟨this.1.symm, this.2.symm⟩
theorem mrestOf_eq {P Q c : Nat} {h : Hs} {s : Nat → Nat} {μ : Mm} (hk : hok h) (hr : μ.2 = RFt P Q) (hh : MH μ h) (hg : MG μ h s) (hc : c < hZ h) : f_X10_restOf μ 107 (nI c) = some (nI (rst h s c), μ) := by
  unfold f_X10_restOf
  rw [mrollsTo_eq hk hr hh hg hc, bC_s, mrest_loop hk hr hh hg 10 c FU (by have := hgt_le hk s c; omega) (by rw [FU_eq]; omega) hc, (rst_10 hk s c).1]
