/-! all ways, by their numbers -/
theorem HY.bec {σ : St} {P Q k : Nat} {μ : Mm} (y : HY σ P Q μ) (hk : k < 243) : ∃ μ', f_X8_become μ 91 (nI k) (μ.1 P 3) = some μ' ∧ Ag μ μ' (fun a => a = 91 ∨ a = 92) ∧ CW μ' (dig3 (hN (sH σ)) k) (hN (sH σ)) := by
  rw [y.ch.2.2.2.1]
  exact become_eq y.hk.2.2.1 hk y.2.1
theorem HY.shp {σ : St} {P Q : Nat} {s : Nat → Nat} {μ : Mm} (y : HY σ P Q μ) (hs : ∀ i, s i ≤ 2) (hw : CW μ s (hN (sH σ))) : ∃ μ', f_X2_shape μ 93 P 91 = some μ' ∧ Ag μ μ' Xhl ∧ CX μ' (sH σ) s := by
  obtain ⟨μ', e1, e2, e3⟩ := shape_eq y.p y.hk hs y.2.1 y.ch hw
  exact ⟨μ', e1, e2, e3.x⟩
theorem HY.rbw {σ : St} {P Q c to : Nat} {s : Nat → Nat} {μ : Mm} (y : HY σ P Q μ) (hs : ∀ i, s i ≤ 2) (hw : CW μ s (hN (sH σ))) (hc : c < hZ (sH σ)) (ht : to < hZ (sH σ)) :
    ∃ μ', f_X9_restsByWay μ 0 (nI c) (nI to) = some (bz (decide (rst (sH σ) s c = to)), μ') ∧ Ag μ μ' Xhl := by
  have hz := y.hk.z
  obtain ⟨μ1, e1, e2, e3⟩ := y.shp hs hw
  have hr1 := e2.1.trans y.2.1
  obtain ⟨μ2, f1, f2, f3⟩ := restFrom_eq y.hk hr1 e3 hc
  have hl := rst_lt s hc
  refine ⟨μ2, ?_, e2.tr (f2.wk (fun a q => by omega))⟩
  unfold f_X9_restsByWay
  rw [rd y.2.1 (rt_0_10 P Q), bR_s, rd y.2.1 (rt_p P Q), bR_s, rd y.2.1 (rt_0_9 P Q), bR_s, e1, bV_s, rd hr1 (rt_0_10 P Q), bR_s, f1, bC_s]
  by_cases q : rst (sH σ) s c = to
  · rw [if_pos (by rw [q]), decide_eq_true q]; rfl
  · rw [if_neg (nI_ne q (by omega) (by omega)), decide_eq_false q]; rfl
def fitk (σ : St) (s : Nat → Nat) : Nat → Bool
  | 0 => true
  | k + 1 => fitk σ s k && decide (rst (sH σ) s (σ.2 2 k) = σ.2 3 k)
def fit (σ : St) (s : Nat → Nat) : Bool := fitk σ s (σ.2 0 3)
theorem fitk_f {σ : St} {s : Nat → Nat} {k : Nat} (q : fitk σ s k = false) : ∀ n, k ≤ n → fitk σ s n = false
  | 0, hn => by rw [← show k = 0 by omega]; exact q
  | n + 1, hn => by
    by_cases e : k = n + 1
    · rw [← e]; exact q
    · show (fitk σ s n && _) = false
      rw [fitk_f q n (by omega), Bool.false_and]
theorem fits_loop {σ : St} {P Q : Nat} {s : Nat → Nat} : ∀ (m k f : Nat) (μ : Mm), HY σ P Q μ → CX μ (sH σ) s → k + m = σ.2 0 3 → m < f → fitk σ s k = true →
    ∃ μ', f_X9_fitsSeen_L17 f μ 0 (nI k) = some (bz (fit σ s), μ') ∧ Ag μ μ' Xhl ∧ CX μ' (sH σ) s := by
  intro m
  induction m with
  | zero =>
    intro k f μ y hx hm hf hq
    obtain ⟨f, rfl⟩ := fs1 hf
    have h6 := y.2.2.1.2.2.2.2.2.2.1.1
    refine ⟨μ, ?_, Ag.rf, hx⟩
    show f_X9_fitsSeen_L17b _ _ _ _ = _
    unfold f_X9_fitsSeen_L17b fit
    rw [rd y.2.1 (rt_0_8 P Q), bR_s, y.2.2.2.1.2.2.2.2.2.1.1, if_pos (nI_le (by omega) (by omega)), ← show k = σ.2 0 3 by omega, hq]
    rfl
  | succ m ih =>
    intro k f μ y hx hm hf hq
    obtain ⟨f, rfl⟩ := fs1 hf
    have hz := y.hk.z
    obtain ⟨h6, h6s⟩ := y.2.2.1.2.2.2.2.2.2.1
    obtain ⟨b1, b2⟩ := h6s k (by omega)
    obtain ⟨v1, v2⟩ := y.2.2.2.1.2.2.2.2.2.1.2 k (by omega)
    have ec : f_X6_seenFrom μ 86 (nI k) = some (nI (σ.2 2 k), μ) := by
      rw [← v1]
      exact row15_eq y.2.1 (rt_86_0 P Q) (show ln 87 = 6 from rfl) (by decide) (by omega)
    obtain ⟨μ1, e1, e2, e3⟩ := restFrom_eq y.hk y.2.1 hx b1
    have g1 : Ag μ μ1 Xhl := e2.wk (fun a q => by omega)
    have y1 := y.c (g1.wk (fun a q => by omega))
    obtain ⟨w1, w2⟩ := y1.2.2.2.1.2.2.2.2.2.1.2 k (by omega)
    have eh : f_X6_seenTo μ1 86 (nI k) = some (nI (σ.2 3 k), μ1) := by
      rw [← w2]
      exact row15_eq y1.2.1 (rt_86_1 P Q) (show ln 88 = 6 from rfl) (by decide) (by omega)
    have hl := rst_lt s b1
    have hs1 : fitk σ s (k + 1) = (fitk σ s k && decide (rst (sH σ) s (σ.2 2 k) = σ.2 3 k)) := rfl
    show ∃ μ', f_X9_fitsSeen_L17b _ _ _ _ = _ ∧ _
    unfold f_X9_fitsSeen_L17b
    rw [rd y.2.1 (rt_0_8 P Q), bR_s, y.2.2.2.1.2.2.2.2.2.1.1, if_neg (nI_ge (by omega) (by omega)), rd y.2.1 (rt_0_10 P Q), bR_s, bR_s, ec, bC_s, e1, bC_s, rd y1.2.1 (rt_0_8 P Q), bR_s, eh, bC_s, nI_p1]
    by_cases q : rst (sH σ) s (σ.2 2 k) = σ.2 3 k
    · rw [if_pos (by rw [q])]
      obtain ⟨μ', d1, d2, d3⟩ := ih (k + 1) f μ1 y1 e3 (by omega) (by omega) (by rw [hs1, hq, decide_eq_true q]; rfl)
      exact ⟨μ', d1, g1.tr d2, d3⟩
    · rw [if_neg (nI_ne q (by omega) (by omega))]
      refine ⟨μ1, ?_, g1, e3⟩
      unfold fit
      rw [fitk_f (k := k + 1) (by rw [hs1, decide_eq_false q, Bool.and_false]) _ (by omega)]
      rfl
theorem HY.fts {σ : St} {P Q : Nat} {s : Nat → Nat} {μ : Mm} (y : HY σ P Q μ) (hs : ∀ i, s i ≤ 2) (hw : CW μ s (hN (sH σ))) :
    ∃ μ', f_X9_fitsSeen μ 0 = some (bz (fit σ s), μ') ∧ Ag μ μ' Xhl ∧ CX μ' (sH σ) s := by
  have h6 := y.2.2.1.2.2.2.2.2.2.1.1
  obtain ⟨μ1, e1, e2, e3⟩ := y.shp hs hw
  obtain ⟨μ2, d1, d2, d3⟩ := fits_loop (σ.2 0 3) 0 FU μ1 (y.c (e2.wk (fun a q => by omega))) e3 (by omega) (by rw [FU_eq]; omega) rfl
  refine ⟨μ2, ?_, e2.tr d2, d3⟩
  unfold f_X9_fitsSeen
  rw [rd y.2.1 (rt_0_10 P Q), bR_s, rd y.2.1 (rt_p P Q), bR_s, rd y.2.1 (rt_0_9 P Q), bR_s, e1, bV_s]
  exact d1
theorem mfits_loop {σ : St} {P Q : Nat} {s : Nat → Nat} {μ : Mm} (y : HY σ P Q μ) (hg : MG μ (sH σ) s) : ∀ (m k f : Nat), k + m = σ.2 0 3 → m < f →
    f_X10_allSeen_L8 f μ 107 (bz (fitk σ s k)) (nI k) = some (bz (fit σ s), μ) := by
  have hz := y.hk.z
  obtain ⟨h6, h6s⟩ := y.2.2.1.2.2.2.2.2.2.1
  intro m
  induction m with
  | zero =>
    intro k f hm hf
    obtain ⟨f, rfl⟩ := fs1 hf
    show f_X10_allSeen_L8b _ _ _ _ _ = _
    unfold f_X10_allSeen_L8b fit
    rw [y.2.2.2.2.1.2.2.2.2.2.1.1, if_pos (nI_le (by omega) (by omega)), ckz_bz, gd_t, show k = σ.2 0 3 by omega]
  | succ m ih =>
    intro k f hm hf
    obtain ⟨f, rfl⟩ := fs1 hf
    obtain ⟨b1, b2⟩ := h6s k (by omega)
    obtain ⟨v1, v2⟩ := y.2.2.2.2.1.2.2.2.2.2.1.2 k (by omega)
    have hl := rst_lt s b1
    have hs1 : fitk σ s (k + 1) = (fitk σ s k && decide (rst (sH σ) s (σ.2 2 k) = σ.2 3 k)) := rfl
    show f_X10_allSeen_L8b _ _ _ _ _ = _
    unfold f_X10_allSeen_L8b f_X10_allSeen_j44
    rw [y.2.2.2.2.1.2.2.2.2.2.1.1, if_neg (nI_ge (by omega) (by omega))]
    by_cases a : fitk σ s k = true
    · rw [if_neg (bz_t a), rd y.2.1 (rt_107_31 P Q), bR_s, ckb_n (show k < ln 124 by show k < 6; omega) (by decide), gd_t, nI_clamp (by omega), v1, mrestOf_eq y.hk y.2.1 y.mh hg b1, bC_s, rd y.2.1 (rt_107_32 P Q), bR_s, ckb_n (show k < ln 125 by show k < 6; omega) (by decide), gd_t, v2, nI_p1, ← ih (k + 1) f (by omega) (by omega), hs1, a, Bool.true_and]
      by_cases q : rst (sH σ) s (σ.2 2 k) = σ.2 3 k
      · rw [if_pos (by rw [q]), decide_eq_true q]; rfl
      · rw [if_neg (nI_ne q (by omega) (by omega)), decide_eq_false q]; rfl
    · have a : fitk σ s k = false := by simpa using a
      rw [if_pos (bz_f a), ckz_bz, gd_t]
      unfold fit
      rw [a, fitk_f a (σ.2 0 3) (by omega)]
theorem HY.mfit {σ : St} {P Q : Nat} {s : Nat → Nat} {μ : Mm} (y : HY σ P Q μ) (hs : ∀ i, s i ≤ 2) (hw : MW μ s (hN (sH σ))) :
    ∃ μ', f_X10_allSeen μ 107 = some (bz (fit σ s), μ') ∧ Ag μ μ' (fun a => a = 121) ∧ MG μ' (sH σ) s := by
  have h6 := y.2.2.1.2.2.2.2.2.2.1.1
  obtain ⟨μ1, e1, e2, e3⟩ := mfind_eq y.hk hs y.2.1 y.mh hw
  refine ⟨μ1, ?_, e2, e3⟩
  unfold f_X10_allSeen
  rw [e1, bV_s]
  exact mfits_loop (y.m (e2.wk (fun a q => by omega))) e3 (σ.2 0 3) 0 FU (by omega) (by rw [FU_eq]; omega)
theorem HY.mby {σ : St} {P Q k : Nat} {μ : Mm} (y : HY σ P Q μ) (hk : k < 243) :
    ∃ μ', f_X10_standBy μ 107 (nI k) = some (nI (figs (dig3 (hN (sH σ)) k) (hN (sH σ))), μ') ∧ Ag μ μ' (fun a => a = 120) ∧ MW μ' (dig3 (hN (sH σ)) k) (hN (sH σ)) :=
  mstandBy_eq y.hk.2.2.1 hk y.mh.2.2.2.1 y.2.1
theorem HY.mwy {σ : St} {P Q : Nat} {μ : Mm} (y : HY σ P Q μ) : f_X10_waysToStand μ 107 = some (nI (3 ^ hN (sH σ)), μ) := mways_eq y.hk.2.2.1 y.mh.2.2.2.1
theorem HY.w243 {σ : St} {P Q : Nat} {μ : Mm} (y : HY σ P Q μ) : 3 ^ hN (sH σ) ≤ 243 := ways_le y.hk.2.2.1
abbrev dg (σ : St) (k : Nat) : Nat → Nat := dig3 (hN (sH σ)) k
abbrev fg (σ : St) (k : Nat) : Nat := figs (dig3 (hN (sH σ)) k) (hN (sH σ))
/-! stood -/
def stF (σ : St) (x : Int32) : Nat → Nat → Nat → Int32
  | 0, _, n => if x = -1 then nI n else -1
  | m + 1, k, n => if fit σ (dg σ k) = true then (if nI n = x then nI (fg σ k) else stF σ x m (k + 1) (n + 1)) else stF σ x m (k + 1) n
theorem stF_n (σ : St) {x : Int32} (hx : ¬ (-1 : Int32) ≤ x) : ∀ m k n, n + m < 2 ^ 31 → stF σ x m k n = -1
  | 0, k, n, h => by
    show (if x = -1 then nI n else -1) = -1
    rw [if_neg (fun q => hx (by rw [q]; decide))]
  | m + 1, k, n, h => by
    have hne : ¬ nI n = x := fun q => hx (by
      rw [← q, Int32.le_iff_toInt_le, nI_toInt (by omega)]
      have : (-1 : Int32).toInt = -1 := rfl
      omega)
    show (if fit σ (dg σ k) = true then (if nI n = x then nI (fg σ k) else stF σ x m (k + 1) (n + 1)) else stF σ x m (k + 1) n) = -1
    rw [if_neg hne, stF_n σ hx m (k + 1) (n + 1) (by omega), stF_n σ hx m (k + 1) n (by omega)]
    split <;> rfl
theorem stood_loop {σ : St} {P Q : Nat} (x : Int32) : ∀ (m k n f : Nat) (μ : Mm), HY σ P Q μ → k + m = 3 ^ hN (sH σ) → m < f →
    ∃ μ', f_X9_stood_L27 f μ 0 x (nI n) (nI (3 ^ hN (sH σ))) (nI k) = some (stF σ x m k n, μ') ∧ Ag μ μ' Xc := by
  intro m
  induction m with
  | zero =>
    intro k n f μ y hm hf
    obtain ⟨f, rfl⟩ := fs1 hf
    have hw := y.w243
    refine ⟨μ, ?_, Ag.rf⟩
    show f_X9_stood_L27b _ _ _ _ _ _ _ = some (if x = -1 then nI n else -1, μ)
    unfold f_X9_stood_L27b
    rw [if_pos (nI_le (by omega) (by omega))]
    split <;> rfl
  | succ m ih =>
    intro k n f μ y hm hf
    obtain ⟨f, rfl⟩ := fs1 hf
    have hw := y.w243
    obtain ⟨μ1, e1, e2, e3⟩ := y.bec (show k < 243 by omega)
    have g1 : Ag μ μ1 Xc := e2.wk (fun a q => by omega)
    have y1 := y.c g1
    obtain ⟨μ2, d1, d2, d3⟩ := y1.fts (dig3_le _ _) e3
    have g2 : Ag μ1 μ2 Xc := d2.wk (fun a q => by omega)
    have y2 := y1.c g2
    have hcw : CW μ2 (dg σ k) (hN (sH σ)) := e3.ag d2 (by decide) (by decide)
    show ∃ μ', f_X9_stood_L27b _ _ _ _ _ _ _ = some (if fit σ (dg σ k) = true then (if nI n = x then nI (fg σ k) else stF σ x m (k + 1) (n + 1)) else stF σ x m (k + 1) n, μ') ∧ Ag μ μ' Xc
    unfold f_X9_stood_L27b f_X9_stood_j72
    rw [if_neg (nI_ge (by omega) (by omega)), rd y.2.1 (rt_0_9 P Q), bR_s, rd y.2.1 (rt_p P Q), bR_s, e1, bV_s, d1, bC_s, nI_p1, nI_p1]
    by_cases q : fit σ (dg σ k) = true
    · rw [if_neg (bz_t q), if_pos q]
      by_cases r : nI n = x
      · rw [if_pos r, if_pos r, rd y2.2.1 (rt_0_9 P Q), bR_s, figures_eq y2.2.1 y.hk.2.2.1 hcw, bC_s]
        exact ⟨μ2, rfl, g1.tr g2⟩
      · rw [if_neg r, if_neg r]
        obtain ⟨μ', f1, f2⟩ := ih (k + 1) (n + 1) f μ2 y2 (by omega) (by omega)
        exact ⟨μ', f1, (g1.tr g2).tr f2⟩
    · rw [if_pos (bz_f (by simpa using q)), if_neg q]
      obtain ⟨μ', f1, f2⟩ := ih (k + 1) n f μ2 y2 (by omega) (by omega)
      exact ⟨μ', f1, (g1.tr g2).tr f2⟩
theorem mstood_loop {σ : St} {P Q : Nat} (x : Int32) : ∀ (m k n f : Nat) (μ : Mm), HY σ P Q μ → k + m = 3 ^ hN (sH σ) → m < f →
    ∃ μ', f_X10_stood_L4 f μ 107 x (nI n) (nI k) = some (stF σ x m k n, μ') ∧ Ag μ μ' Xm := by
  intro m
  induction m with
  | zero =>
    intro k n f μ y hm hf
    obtain ⟨f, rfl⟩ := fs1 hf
    have hw := y.w243
    refine ⟨μ, ?_, Ag.rf⟩
    show f_X10_stood_L4b _ _ _ _ _ _ = some (if x = -1 then nI n else -1, μ)
    unfold f_X10_stood_L4b
    rw [y.mwy, bC_s, if_pos (nI_le (by omega) (by omega))]
    split <;> rfl
  | succ m ih =>
    intro k n f μ y hm hf
    obtain ⟨f, rfl⟩ := fs1 hf
    have hw := y.w243
    obtain ⟨μ1, e1, e2, e3⟩ := y.mby (show k < 243 by omega)
    have g1 : Ag μ μ1 Xm := e2.wk (fun a q => Or.inl q)
    have y1 := y.m g1
    obtain ⟨μ2, d1, d2, d3⟩ := y1.mfit (dig3_le _ _) e3
    have g2 : Ag μ1 μ2 Xm := d2.wk (fun a q => Or.inr (Or.inl q))
    have y2 := y1.m g2
    show ∃ μ', f_X10_stood_L4b _ _ _ _ _ _ = some (if fit σ (dg σ k) = true then (if nI n = x then nI (fg σ k) else stF σ x m (k + 1) (n + 1)) else stF σ x m (k + 1) n, μ') ∧ Ag μ μ' Xm
    unfold f_X10_stood_L4b f_X10_stood_j37
    rw [y.mwy, bC_s, if_neg (nI_ge (by omega) (by omega)), e1, bC_s, d1, bC_s, nI_p1, nI_p1]
    by_cases q : fit σ (dg σ k) = true
    · rw [if_neg (bz_t q), if_pos q]
      by_cases r : nI n = x
      · rw [if_pos r, if_pos r]
        exact ⟨μ2, rfl, g1.tr g2⟩
      · rw [if_neg r, if_neg r]
        obtain ⟨μ', f1, f2⟩ := ih (k + 1) (n + 1) f μ2 y2 (by omega) (by omega)
        exact ⟨μ', f1, (g1.tr g2).tr f2⟩
    · rw [if_pos (bz_f (by simpa using q)), if_neg q]
      obtain ⟨μ', f1, f2⟩ := ih (k + 1) n f μ2 y2 (by omega) (by omega)
      exact ⟨μ', f1, (g1.tr g2).tr f2⟩
theorem st_stood : Sp1 Inv f_X9_stood f_X10_stood := by
  intro μ x hI
  obtain ⟨σ, P, Q, y⟩ := id hI
  have hw := y.w243
  unfold f_X9_stood f_X10_stood
  by_cases c : (-1 : Int32) ≤ x
  · rw [if_pos c, rd y.2.1 (rt_0_9 P Q), bR_s, rd y.2.1 (rt_p P Q), bR_s, y.ch.2.2.2.1, countFor_eq 91 y.hk.2.2.1, bC_s]
    obtain ⟨μ1, e1, e2⟩ := stood_loop x (3 ^ hN (sH σ)) 0 0 FU μ y (by omega) (by rw [FU_eq]; omega)
    obtain ⟨μ2, d1, d2⟩ := mstood_loop x (3 ^ hN (sH σ)) 0 0 FU μ1 (y.c e2) (by omega) (by rw [FU_eq]; omega)
    exact ⟨_, μ1, μ2, e1, d1, ((y.c e2).m d2).i⟩
  · rw [if_neg c]
    obtain ⟨μ2, d1, d2⟩ := mstood_loop x (3 ^ hN (sH σ)) 0 0 FU μ y (by omega) (by rw [FU_eq]; omega)
    rw [stF_n σ c _ _ _ (by omega)] at d1
    exact ⟨_, μ, μ2, rfl, d1, (y.m d2).i⟩
/-! fewest -/
def psm (σ : St) (s : Nat → Nat) : Nat → Nat
  | 0 => 0
  | n + 1 => psm σ s n + pri (sH σ) (sB σ) n (s n) 64
theorem psm_le (σ : St) (s : Nat → Nat) : ∀ n, psm σ s n ≤ 1000 * n
  | 0 => Nat.le_refl 0
  | n + 1 => by
    have := psm_le σ s n
    have : pri (sH σ) (sB σ) n (s n) 64 ≤ 1000 := pf_le _ _ _ _ _
    show psm σ s n + _ ≤ _
    omega
theorem pw_loop {σ : St} {P Q : Nat} {s : Nat → Nat} {μ : Mm} (y : HY σ P Q μ) (hs : ∀ i, s i ≤ 2) (hw : CW μ s (hN (sH σ))) (hc : CP μ 97 (sH σ) (sB σ) 5) : ∀ (m k f : Nat), k + m = hN (sH σ) → m < f →
    f_X9_priceOfWay_L4 f μ 0 (nI (psm σ s k)) (nI k) = some (nI (psm σ s (hN (sH σ))), μ) := by
  have hN5 := y.hk.2.2.1
  intro m
  induction m with
  | zero =>
    intro k f hm hf
    obtain ⟨f, rfl⟩ := fs1 hf
    show f_X9_priceOfWay_L4b _ _ _ _ _ = _
    unfold f_X9_priceOfWay_L4b
    rw [rd y.2.1 (rt_p P Q), bR_s, y.ch.2.2.2.1, if_pos (nI_le (by omega) (by omega)), show k = hN (sH σ) by omega]
  | succ m ih =>
    intro k f hm hf
    obtain ⟨f, rfl⟩ := fs1 hf
    have h2 := hs k
    have e : nI k * (3 : Int32) + nI (s k) = nI (3 * k + s k) := by rw [nI_3, nI_add, Nat.mul_comm]
    rw [← ih (k + 1) f (by omega) (by omega)]
    show f_X9_priceOfWay_L4b _ _ _ _ _ = f_X9_priceOfWay_L4 f μ 0 (nI (psm σ s k + pri (sH σ) (sB σ) k (s k) 64)) (nI (k + 1))
    unfold f_X9_priceOfWay_L4b f_X9_priceOfWay_j54
    rw [rd y.2.1 (rt_p P Q), bR_s, y.ch.2.2.2.1, if_neg (nI_ge (by omega) (by omega)), rd y.2.1 (rt_0_9 P Q), bR_s, wstandOf_eq y.2.1 hN5 hw (by omega), bC_s, e, bI_s, if_neg (nI_pos (by omega)), rd y.2.1 (rt_0_11 P Q), bR_s, if_neg (show ¬ Int32.ofNat (ln 97) ≤ nI (3 * k + s k) from nI_ge (show 3 * k + s k < 15 by omega) (by decide)), bR_s, ckb_n (show 3 * k + s k < ln 97 by show _ < 15; omega) (by decide), gd_t, nI_clamp (by omega), hc k (by omega) (s k) (by omega), nI_add, bI_s, nI_p1]
theorem mpw_loop {σ : St} {P Q : Nat} {s : Nat → Nat} {μ : Mm} (y : HY σ P Q μ) (hs : ∀ i, s i ≤ 2) (hw : MW μ s (hN (sH σ))) (hc : CP μ 123 (sH σ) (sB σ) (hN (sH σ))) : ∀ (m k f : Nat), k + m = hN (sH σ) → m < f →
    f_X10_costOf_L4 f μ 107 (nI (psm σ s k)) (nI k) = some (nI (psm σ s (hN (sH σ))), μ) := by
  have hN5 := y.hk.2.2.1
  intro m
  induction m with
  | zero =>
    intro k f hm hf
    obtain ⟨f, rfl⟩ := fs1 hf
    show f_X10_costOf_L4b _ _ _ _ _ = _
    unfold f_X10_costOf_L4b
    rw [y.mh.2.2.2.1, if_pos (nI_le (by omega) (by omega)), show k = hN (sH σ) by omega]
  | succ m ih =>
    intro k f hm hf
    obtain ⟨f, rfl⟩ := fs1 hf
    have h2 := hs k
    have e : (3 : Int32) * nI k + nI (s k) = nI (3 * k + s k) := by
      show nI 3 * nI k + _ = _
      rw [pk_mul, nI_add]
    rw [← ih (k + 1) f (by omega) (by omega)]
    show f_X10_costOf_L4b _ _ _ _ _ = f_X10_costOf_L4 f μ 107 (nI (psm σ s k + pri (sH σ) (sB σ) k (s k) 64)) (nI (k + 1))
    unfold f_X10_costOf_L4b
    rw [y.mh.2.2.2.1, if_neg (nI_ge (by omega) (by omega)), rd y.2.1 (rt_107_29 P Q), bR_s, rd y.2.1 (rt_107_25 P Q), bR_s, ckb_n (show k < ln 120 by show k < 5; omega) (by decide), gd_t, nI_clamp (by omega), hw k (by omega), e, ckb_n (show 3 * k + s k < ln 123 by show _ < 15; omega) (by decide), gd_t, nI_clamp (by omega), hc k (by omega) (s k) (by omega), nI_add, bI_s, nI_p1]
def prc (σ : St) (k : Nat) : Nat := psm σ (dg σ k) (hN (sH σ))
def flS (σ : St) (B : Option Nat) : Nat := match B with
  | none => 1000
  | some j => prc σ j
def fgS (σ : St) (B : Option Nat) : Int32 := match B with
  | none => -1
  | some j => nI (fg σ j)
def fwS (σ : St) (c to : Nat) : Nat → Option Nat
  | 0 => none
  | k + 1 => if prc σ k < flS σ (fwS σ c to k) ∧ rst (sH σ) (dg σ k) c = to then some k else fwS σ c to k
theorem fwS_le (σ : St) (c to : Nat) : ∀ k, flS σ (fwS σ c to k) ≤ 1000 ∧ (∀ j, fwS σ c to k = some j → prc σ j < 1000)
  | 0 => ⟨Nat.le_refl _, fun j e => by cases (show (none : Option Nat) = some j from e)⟩
  | k + 1 => by
    have h := fwS_le σ c to k
    show flS σ (if prc σ k < flS σ (fwS σ c to k) ∧ rst (sH σ) (dg σ k) c = to then some k else fwS σ c to k) ≤ 1000 ∧ (∀ j, (if prc σ k < flS σ (fwS σ c to k) ∧ rst (sH σ) (dg σ k) c = to then some k else fwS σ c to k) = some j → prc σ j < 1000)
    by_cases q : prc σ k < flS σ (fwS σ c to k) ∧ rst (sH σ) (dg σ k) c = to
    · rw [if_pos q]
      refine ⟨?_, fun j e => ?_⟩
      · show prc σ k ≤ 1000
        omega
      · cases e; omega
    · rw [if_neg q]
      exact h
theorem prc_lt (σ : St) {P Q : Nat} {μ : Mm} (y : HY σ P Q μ) (k : Nat) : prc σ k ≤ 5000 := by
  have := psm_le σ (dg σ k) (hN (sH σ))
  have := y.hk.2.2.1
  unfold prc
  omega
def fwA (σ : St) (w : Int32) (B : Option Nat) : Int32 := match B with
  | none => -1
  | some j => if w = 0 then nI (prc σ j) else nI (fg σ j)
theorem few_loop {σ : St} {P Q c to : Nat} (w : Int32) (hc : c < hZ (sH σ)) (ht : to < hZ (sH σ)) : ∀ (m k f : Nat) (μ : Mm), HY σ P Q μ → CP μ 97 (sH σ) (sB σ) 5 → k + m = 3 ^ hN (sH σ) → m < f →
    ∃ μ', f_X9_fewest_L68 f μ 0 (nI c) (nI to) w (nI (flS σ (fwS σ c to k))) (fgS σ (fwS σ c to k)) (nI (3 ^ hN (sH σ))) (nI k) = some (fwA σ w (fwS σ c to (3 ^ hN (sH σ))), μ') ∧ Ag μ μ' Xc := by
  intro m
  induction m with
  | zero =>
    intro k f μ y hp hm hf
    obtain ⟨f, rfl⟩ := fs1 hf
    have hw := y.w243
    refine ⟨μ, ?_, Ag.rf⟩
    show f_X9_fewest_L68b _ _ _ _ _ _ _ _ _ _ = _
    unfold f_X9_fewest_L68b
    rw [if_pos (nI_le (by omega) (by omega)), show k = 3 ^ hN (sH σ) by omega]
    have hl := fwS_le σ c to (3 ^ hN (sH σ))
    revert hl
    generalize fwS σ c to (3 ^ hN (sH σ)) = B
    intro hl
    match B with
    | none =>
      rw [if_neg (show ¬ nI (flS σ none) < (1000 : Int32) from by show ¬ nI 1000 < nI 1000; exact nI_nlt (Nat.le_refl _) (by omega))]
      rfl
    | some j =>
      have h1 := hl.2 j rfl
      rw [if_pos (show nI (flS σ (some j)) < (1000 : Int32) from nI_lt (b := 1000) h1 (by omega))]
      show (if w = 0 then some (nI (prc σ j), μ) else some (nI (fg σ j), μ)) = some (if w = 0 then nI (prc σ j) else nI (fg σ j), μ)
      split <;> rfl
  | succ m ih =>
    intro k f μ y hp hm hf
    obtain ⟨f, rfl⟩ := fs1 hf
    have hw := y.w243
    have hz := y.hk.z
    have hpk := prc_lt σ y k
    have hfl := (fwS_le σ c to k).1
    obtain ⟨μ1, e1, e2, e3⟩ := y.bec (show k < 243 by omega)
    have g1 : Ag μ μ1 Xc := e2.wk (fun a q => by omega)
    have y1 := y.c g1
    have hp1 : CP μ1 97 (sH σ) (sB σ) 5 := by
      unfold CP
      rw [e2.2 97 (by decide)]
      exact hp
    have hpw : f_X9_priceOfWay μ1 0 = some (nI (prc σ k), μ1) := pw_loop y1 (dig3_le _ _) e3 hp1 (hN (sH σ)) 0 FU (by omega) (by rw [FU_eq]; have := y.hk.2.2.1; omega)
    show ∃ μ', f_X9_fewest_L68b _ _ _ _ _ _ _ _ _ _ = _ ∧ _
    unfold f_X9_fewest_L68b f_X9_fewest_j126
    rw [if_neg (nI_ge (by omega) (by omega)), rd y.2.1 (rt_0_9 P Q), bR_s, rd y.2.1 (rt_p P Q), bR_s, e1, bV_s, hpw, bC_s, nI_p1]
    have hs : fwS σ c to (k + 1) = if prc σ k < flS σ (fwS σ c to k) ∧ rst (sH σ) (dg σ k) c = to then some k else fwS σ c to k := rfl
    by_cases q : prc σ k < flS σ (fwS σ c to k)
    · obtain ⟨μ2, d1, d2⟩ := y1.rbw (dig3_le _ _) e3 hc ht
      have g2 : Ag μ1 μ2 Xc := d2.wk (fun a q => by omega)
      have y2 := y1.c g2
      have hp2 : CP μ2 97 (sH σ) (sB σ) 5 := by
        unfold CP
        rw [d2.2 97 (by decide)]
        exact hp1
      rw [if_neg (nI_ge q (by omega)), d1, bC_s]
      by_cases r : rst (sH σ) (dg σ k) c = to
      · have hcw : CW μ2 (dg σ k) (hN (sH σ)) := e3.ag d2 (by decide) (by decide)
        rw [if_neg (bz_t (decide_eq_true r)), rd y2.2.1 (rt_0_9 P Q), bR_s, figures_eq y2.2.1 y.hk.2.2.1 hcw, bC_s]
        obtain ⟨μ', f1, f2⟩ := ih (k + 1) f μ2 y2 hp2 (by omega) (by omega)
        rw [hs, if_pos ⟨q, r⟩] at f1
        exact ⟨μ', f1, (g1.tr g2).tr f2⟩
      · rw [if_pos (bz_f (decide_eq_false r))]
        obtain ⟨μ', f1, f2⟩ := ih (k + 1) f μ2 y2 hp2 (by omega) (by omega)
        rw [hs, if_neg (fun z => r z.2)] at f1
        exact ⟨μ', f1, (g1.tr g2).tr f2⟩
    · rw [if_pos (nI_le (by omega) (by omega))]
      obtain ⟨μ', f1, f2⟩ := ih (k + 1) f μ1 y1 hp1 (by omega) (by omega)
      rw [hs, if_neg (fun z => q z.1)] at f1
      exact ⟨μ', f1, g1.tr f2⟩
theorem fg_pos (σ : St) {P Q : Nat} {μ : Mm} (y : HY σ P Q μ) (k : Nat) : fg σ k < 100000 := figs5 (dig3_le _ _) y.hk.2.2.1
theorem mfew_loop {σ : St} {P Q c to : Nat} {w : Int32} (hw2 : w = 0 ∨ w = 1) (hc : c < hZ (sH σ)) (ht : to < hZ (sH σ)) : ∀ (m k f : Nat) (μ : Mm), HY σ P Q μ → CP μ 123 (sH σ) (sB σ) (hN (sH σ)) → k + m = 3 ^ hN (sH σ) → m < f →
    ∃ μ', f_X10_fewest_L47 f μ 107 (nI c) (nI to) w (fgS σ (fwS σ c to k)) (nI (flS σ (fwS σ c to k))) (nI k) = some (fwA σ w (fwS σ c to (3 ^ hN (sH σ))), μ') ∧ Ag μ μ' Xm := by
  intro m
  induction m with
  | zero =>
    intro k f μ y hp hm hf
    obtain ⟨f, rfl⟩ := fs1 hf
    have hw := y.w243
    refine ⟨μ, ?_, Ag.rf⟩
    show f_X10_fewest_L47b _ _ _ _ _ _ _ _ _ = _
    unfold f_X10_fewest_L47b f_X10_fewest_j141
    rw [y.mwy, bC_s, if_pos (nI_le (by omega) (by omega)), show k = 3 ^ hN (sH σ) by omega]
    generalize fwS σ c to (3 ^ hN (sH σ)) = B
    match B with
    | none =>
      rw [if_pos (show fgS σ none < 0 from by show (-1 : Int32) < 0; decide)]
      rfl
    | some j =>
      have h1 := fg_pos σ y j
      rw [if_neg (show ¬ fgS σ (some j) < 0 from nI_pos (by omega))]
      rcases hw2 with rfl | rfl
      · rw [if_neg (by decide)]
        rfl
      · rw [if_pos rfl]
        rfl
  | succ m ih =>
    intro k f μ y hp hm hf
    obtain ⟨f, rfl⟩ := fs1 hf
    have hw := y.w243
    have hz := y.hk.z
    have hpk := prc_lt σ y k
    have hfl := (fwS_le σ c to k).1
    obtain ⟨μ1, e1, e2, e3⟩ := y.mby (show k < 243 by omega)
    have g1 : Ag μ μ1 Xm := e2.wk (fun a q => Or.inl q)
    have y1 := y.m g1
    have hp1 : CP μ1 123 (sH σ) (sB σ) (hN (sH σ)) := by
      unfold CP
      rw [e2.2 123 (by decide)]
      exact hp
    have hpw : f_X10_costOf μ1 107 = some (nI (prc σ k), μ1) := mpw_loop y1 (dig3_le _ _) e3 hp1 (hN (sH σ)) 0 FU (by omega) (by rw [FU_eq]; have := y.hk.2.2.1; omega)
    show ∃ μ', f_X10_fewest_L47b _ _ _ _ _ _ _ _ _ = _ ∧ _
    unfold f_X10_fewest_L47b f_X10_fewest_j95 f_X10_fewest_j109 f_X10_fewest_j123 f_X10_fewest_j125
    rw [y.mwy, bC_s, if_neg (nI_ge (by omega) (by omega)), e1, bC_s, hpw, bC_s, nI_p1]
    have hs : fwS σ c to (k + 1) = if prc σ k < flS σ (fwS σ c to k) ∧ rst (sH σ) (dg σ k) c = to then some k else fwS σ c to k := rfl
    by_cases q : prc σ k < flS σ (fwS σ c to k)
    · obtain ⟨μ2, d1, d2, d3⟩ := mfind_eq y1.hk (dig3_le _ _) y1.2.1 y1.mh e3
      have g2 : Ag μ1 μ2 Xm := d2.wk (fun a q => Or.inr (Or.inl q))
      have y2 := y1.m g2
      have hp2 : CP μ2 123 (sH σ) (sB σ) (hN (sH σ)) := by
        unfold CP
        rw [d2.2 123 (by decide)]
        exact hp1
      have hl := rst_lt (dg σ k) hc
      rw [if_neg (nI_ge q (by omega)), d1, bV_s, mrestOf_eq y.hk y2.2.1 y2.mh d3 hc, bC_s]
      by_cases r : rst (sH σ) (dg σ k) c = to
      · rw [if_pos (by rw [r]), if_neg (by decide), if_neg (by decide)]
        obtain ⟨μ', f1, f2⟩ := ih (k + 1) f μ2 y2 hp2 (by omega) (by omega)
        rw [hs, if_pos ⟨q, r⟩] at f1
        exact ⟨μ', f1, (g1.tr g2).tr f2⟩
      · rw [if_neg (nI_ne r (by omega) (by omega)), if_pos rfl, if_pos rfl]
        obtain ⟨μ', f1, f2⟩ := ih (k + 1) f μ2 y2 hp2 (by omega) (by omega)
        rw [hs, if_neg (fun z => r z.2)] at f1
        exact ⟨μ', f1, (g1.tr g2).tr f2⟩
    · rw [if_pos (nI_le (by omega) (by omega))]
      obtain ⟨μ', f1, f2⟩ := ih (k + 1) f μ1 y1 hp1 (by omega) (by omega)
      rw [hs, if_neg (fun z => q z.1)] at f1
      exact ⟨μ', f1, g1.tr f2⟩
theorem st_fewest : Sp3 Inv f_X9_fewest f_X10_fewest := by
  intro μ x t w hI
  obtain ⟨σ, P, Q, y⟩ := id hI
  have hr := y.2.1
  have hz := y.hk.z
  have hwy := y.w243
  unfold f_X9_fewest f_X10_fewest
  rw [rd hr (rt_p P Q), bR_s, hasCell_eq y, bC_s]
  by_cases c : inI x (hZ (sH σ)) = true
  · obtain ⟨i, hi, rfl⟩ := inI_j c (by omega)
    rw [if_neg (bz_t c), rd hr (rt_p P Q), bR_s, hasCell_eq y, bC_s]
    by_cases c2 : inI t (hZ (sH σ)) = true
    · obtain ⟨j, hj, rfl⟩ := inI_j c2 (by omega)
      rw [if_neg (bz_t c2), lit_in w 1 1 rfl (by decide)]
      by_cases c3 : inI w 2 = true
      · obtain ⟨v, hv, rfl⟩ := inI_j c3 (by decide)
        have hv2 : nI v = 0 ∨ nI v = 1 := by
          have : v = 0 ∨ v = 1 := by omega
          rcases this with rfl | rfl
          · exact Or.inl rfl
          · exact Or.inr rfl
        obtain ⟨μ1, e1, e2, e3⟩ := fill_loop 5 0 FU μ y (by omega) (by rw [FU_eq]; omega) (fun i hi => absurd hi (by omega))
        have g1 : Ag μ μ1 Xc := e2.wk (fun a q => by omega)
        have y1 := y.c g1
        obtain ⟨μ2, d1, d2⟩ := few_loop (nI v) hi hj (3 ^ hN (sH σ)) 0 FU μ1 y1 e3 (by omega) (by rw [FU_eq]; omega)
        have y2 := y1.c d2
        obtain ⟨μ3, m1, m2, m3⟩ := mcost_init (15) 0 FU μ2 y2 (by omega) (by rw [FU_eq]; omega) (fun i hi => absurd hi (by omega))
        have y3 := y2.m (m2.wk (fun a q => by omega))
        obtain ⟨μ4, n1, n2⟩ := mfew_loop hv2 hi hj (3 ^ hN (sH σ)) 0 FU μ3 y3 m3 (by omega) (by rw [FU_eq]; omega)
        have y4 := y3.m n2
        rw [if_pos c3, show f_X9_fillPrices μ 0 = some μ1 from e1, bV_s, rd y1.2.1 (rt_0_9 P Q), bR_s, rd y1.2.1 (rt_p P Q), bR_s, y1.ch.2.2.2.1, countFor_eq 91 y.hk.2.2.1, bC_s]
        refine ⟨_, μ2, μ4, d1, ?_, y4.i⟩
        rw [isCell_eq y2, bC_s, if_neg (bz_t c), isCell_eq y2, bC_s, if_neg (bz_t c2), in_lit μ2 _ 1 1 rfl (by decide), bC_s, if_neg (bz_t c3), show f_X10_findCosts μ2 107 = some μ3 from m1, bV_s]
        exact n1
      · rw [if_neg c3]
        refine ⟨_, μ, μ, rfl, ?_, hI⟩
        rw [isCell_eq y, bC_s, if_neg (bz_t c), isCell_eq y, bC_s, if_neg (bz_t c2), in_lit μ w 1 1 rfl (by decide), bC_s, if_pos (bz_f (by simpa using c3))]
    · rw [if_pos (bz_f (by simpa using c2))]
      refine ⟨_, μ, μ, rfl, ?_, hI⟩
      rw [isCell_eq y, bC_s, if_neg (bz_t c), isCell_eq y, bC_s, if_pos (bz_f (by simpa using c2))]
  · rw [if_pos (bz_f (by simpa using c))]
    refine ⟨_, μ, μ, rfl, ?_, hI⟩
    rw [isCell_eq y, bC_s, if_pos (bz_f (by simpa using c))]
